/-! a place that may be stored to -/
theorem shr8 {a : Nat} (h : a < 2 ^ 31) : nI a >>> ((8 : Int32) &&& 31) = nI (a / 256) := pk_shrN h _ 8 (by decide)
theorem keyOf_in (K : rw_) {j : Nat} (h : j < 8) : f_X6_keyOfBlock K (nI j) = K j := by
  unfold f_X6_keyOfBlock
  rw [and7 j (by omega), Nat.mod_eq_of_lt h, nI_clamp (by omega)]
theorem isOpen_loop (K : rw_) (p1 p2 key : Int32) (q : Nat) (hq : q < 8) (hT : (if (7 : Int32) < (((p1 + p2) - (1 : Int32)) >>> ((8 : Int32) &&& 31)) then (7 : Int32) else (((p1 + p2) - (1 : Int32)) >>> ((8 : Int32) &&& 31))) = nI q) :
    ∀ (d j fuel : Nat), j + d = q + 1 → d < fuel → (f_X6_isOpen_L27 K p1 p2 key fuel (nI j) = true ↔ ∀ i, j ≤ i → i ≤ q → K i = key) := by
  intro d
  induction d with
  | zero =>
    intro j fuel hj hf
    obtain ⟨g, rfl⟩ : ∃ g, fuel = g + 1 := ⟨fuel - 1, by omega⟩
    rw [f_X6_isOpen_L27, hT, if_pos (nI_lt (by omega) (by omega))]
    exact ⟨fun _ i h1 h2 => absurd h1 (by omega), fun _ => rfl⟩
  | succ d ih =>
    intro j fuel hj hf
    obtain ⟨g, rfl⟩ : ∃ g, fuel = g + 1 := ⟨fuel - 1, by omega⟩
    have e1 : nI j + (1 : Int32) = nI (j + 1) := nI_1 j
    rw [f_X6_isOpen_L27, hT, if_neg (nI_nlt (by omega) (by omega)), keyOf_in K (by omega), e1]
    by_cases c : K j = key
    · rw [if_pos c, ih (j + 1) g (by omega) (by omega)]
      constructor
      · intro h i h1 h2
        by_cases e : i = j
        · rw [e]; exact c
        · exact h i (by omega) h2
      · intro h i h1 h2
        exact h i (by omega) h2
    · rw [if_neg c]
      constructor
      · intro h; cases h
      · intro h; exact absurd (h j (Nat.le_refl j) (by omega)) c
theorem isOpen_iff (K : rw_) (a n : Nat) (key : Int32) (hn : 1 ≤ n) (ha : a + n ≤ 2048) : f_X6_isOpen K (nI a) (nI n) key = true ↔ (key = 0 ∨ ∀ i, a / 256 ≤ i → i ≤ (a + n - 1) / 256 → K i = key) := by
  have e0 : ((nI a + nI n) - (1 : Int32)) >>> ((8 : Int32) &&& 31) = nI ((a + n - 1) / 256) := by
    rw [nI_add, show (1 : Int32) = nI 1 from rfl, pk_sub (by omega), shr8 (by omega)]
  have hT : (if (7 : Int32) < (((nI a + nI n) - (1 : Int32)) >>> ((8 : Int32) &&& 31)) then (7 : Int32) else (((nI a + nI n) - (1 : Int32)) >>> ((8 : Int32) &&& 31))) = nI ((a + n - 1) / 256) := by
    rw [e0, if_neg (show ¬ (7 : Int32) < nI ((a + n - 1) / 256) from nI_nlt (b := (a + n - 1) / 256) (a := 7) (by omega) (by omega))]
  unfold f_X6_isOpen
  by_cases c : key = 0
  · rw [if_pos c]
    exact ⟨fun _ => Or.inl c, fun _ => rfl⟩
  · rw [if_neg c, hT, shr8 (by omega)]
    have hfu : ((nI ((a + n - 1) / 256)).toInt + 1 - (nI (a / 256)).toInt).toNat + 1 = ((a + n - 1) / 256 + 1 - a / 256) + 1 := by
      rw [nI_toInt (by omega), nI_toInt (by omega)]
      omega
    rw [hfu, isOpen_loop K (nI a) (nI n) key ((a + n - 1) / 256) (by omega) hT ((a + n - 1) / 256 + 1 - a / 256) (a / 256) _ (by omega) (by omega)]
    exact ⟨fun h => Or.inr h, fun h => h.resolve_left c⟩
