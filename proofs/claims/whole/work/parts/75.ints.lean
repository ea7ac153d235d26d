/-! signed numbers in ints -/
def iI (x : Int) : Int32 := Int32.ofInt x
theorem iI_n (n : Nat) : iI (n : Int) = nI n := by
  unfold iI nI
  exact Int32.toBitVec_inj.mp (by rw [Int32.toBitVec_ofInt, Int32.toBitVec_ofNat', BitVec.ofInt_natCast])
theorem iI_add (x y : Int) : iI x + iI y = iI (x + y) := (Int32.ofInt_add x y).symm
theorem iI_mul (x y : Int) : iI x * iI y = iI (x * y) := (Int32.ofInt_mul x y).symm
theorem iI_neg (x : Int) : -iI x = iI (-x) := (Int32.ofInt_neg x).symm
theorem iI_sub (x y : Int) : iI x - iI y = iI (x - y) := (Int32.ofInt_sub x y).symm
theorem iI_toInt {x : Int} (h1 : -2147483648 ≤ x) (h2 : x < 2147483648) : (iI x).toInt = x := by
  unfold iI
  rw [Int32.toInt_ofInt, Int.bmod_def, show (Int32.size : Int) = 4294967296 from rfl]
  split <;> omega
theorem iI_le {x y : Int} (h1 : -2147483648 ≤ x) (h2 : x < 2147483648) (h3 : -2147483648 ≤ y) (h4 : y < 2147483648) : iI x ≤ iI y ↔ x ≤ y := by rw [q_le, iI_toInt h1 h2, iI_toInt h3 h4]
theorem iI_lt {x y : Int} (h1 : -2147483648 ≤ x) (h2 : x < 2147483648) (h3 : -2147483648 ≤ y) (h4 : y < 2147483648) : iI x < iI y ↔ x < y := by rw [q_lt, iI_toInt h1 h2, iI_toInt h3 h4]
theorem iI_eq {x y : Int} (h1 : -2147483648 ≤ x) (h2 : x < 2147483648) (h3 : -2147483648 ≤ y) (h4 : y < 2147483648) : iI x = iI y ↔ x = y := by rw [q_eq, iI_toInt h1 h2, iI_toInt h3 h4]
def sg (n : Bool) : Int := if n = true then -1 else 1
/-- the sign of the highest number that is not 0 -/
def tp (x : Nat → Int) : Nat → Int
  | 0 => 0
  | k + 1 => if x k = 0 then tp x k else if 0 ≤ x k then 1 else -1
def ca (x : Nat → Int) : Nat → Int
  | 0 => 0
  | k + 1 => if x k + ca x k ≤ 9 then (if 0 ≤ x k + ca x k then 0 else -1) else 1
theorem ca_rg (x : Nat → Int) (k : Nat) : -1 ≤ ca x k ∧ ca x k ≤ 1 := by
  cases k with
  | zero => exact ⟨show (-1 : Int) ≤ 0 by decide, show (0 : Int) ≤ 1 by decide⟩
  | succ k =>
    rw [ca]
    split
    · split <;> omega
    · omega
theorem settle47 (x : Nat → Int) (σ : Int) (hx : ∀ k, -18 ≤ x k ∧ x k ≤ 18) (hσ : σ = 1 ∨ σ = -1 ∨ (σ = 0 ∧ ∀ k, x k = 0)) : ∀ (d k fuel : Nat) (one : rw_), k + d = 39 → d < fuel → one k = iI (σ * (x k + ca x k)) → (∀ j, k < j → j < 40 → one j = iI (σ * x j)) →
    ∃ one', f_X8_settle_L47 fuel one (nI k) (iI σ) = (iI σ, one') ∧ (∀ j, j < k → one' j = one j) ∧ (∀ j, k ≤ j → j < 39 → one' j = iI (σ * (x j + ca x j - 10 * ca x (j + 1)))) ∧ one' 39 = iI (σ * (x 39 + ca x 39)) ∧ s_X8_settle_L47 fuel one (nI k) (iI σ) := by
  intro d
  induction d with
  | zero =>
    intro k fuel one h1 h2 h3 h4
    obtain ⟨m, rfl⟩ : ∃ m, fuel = m + 1 := ⟨fuel - 1, by omega⟩
    have hk : k = 39 := by omega
    subst hk
    refine ⟨one, ?_, fun j _ => rfl, fun j _ _ => by omega, h3, ?_⟩
    · rw [f_X8_settle_L47, if_pos (by decide)]
    · rw [s_X8_settle_L47, if_pos (by decide)]
      trivial
  | succ d ih =>
    intro k fuel one h1 h2 h3 h4
    obtain ⟨m, rfl⟩ : ∃ m, fuel = m + 1 := ⟨fuel - 1, by omega⟩
    have hc := ca_rg x k
    have hxk := hx k
    obtain ⟨v, hv⟩ : ∃ v, v = x k + ca x k := ⟨_, rfl⟩
    have hvv : -19 ≤ v ∧ v ≤ 19 := by omega
    have c : ¬ (39 : Int32) ≤ nI k := nI_ge (b := 39) (by omega) (by omega)
    have e1 : (nI k).toNatClampNeg = k := nI_clamp (by omega)
    have e2 : nI k + (1 : Int32) = nI (k + 1) := nI_1 k
    have e3 : (nI (k + 1)).toNatClampNeg = k + 1 := nI_clamp (by omega)
    have hvs : σ * v * σ = v := by
      rcases hσ with h | h | ⟨h, h0⟩
      · subst h; omega
      · subst h; omega
      · subst h
        have : v = 0 := by
          rw [hv, h0 k]
          have : ∀ k, ca x k = 0 := by
            intro k
            induction k with
            | zero => rfl
            | succ k ih => rw [ca, h0 k, ih]; rfl
          rw [this k]; rfl
        rw [this]; rfl
    have hval : one k * iI σ = iI v := by rw [h3, ← hv, iI_mul, hvs]
    have hn1 : one (k + 1) = iI (σ * x (k + 1)) := h4 (k + 1) (by omega) (by omega)
    have key : ∀ (c : Int) (ci : Int32), ci = iI c → ca x (k + 1) = c → ∃ one', f_X8_settle_L47 m (upd (upd one k ((iI v - (10 : Int32) * ci) * iI σ)) (k + 1) ((upd one k ((iI v - (10 : Int32) * ci) * iI σ)) (k + 1) + ci * iI σ)) (nI (k + 1)) (iI σ) = (iI σ, one') ∧ (∀ j, j < k → one' j = one j) ∧ (∀ j, k ≤ j → j < 39 → one' j = iI (σ * (x j + ca x j - 10 * ca x (j + 1)))) ∧ one' 39 = iI (σ * (x 39 + ca x 39)) ∧ s_X8_settle_L47 m (upd (upd one k ((iI v - (10 : Int32) * ci) * iI σ)) (k + 1) ((upd one k ((iI v - (10 : Int32) * ci) * iI σ)) (k + 1) + ci * iI σ)) (nI (k + 1)) (iI σ) := by
      intro c ci hci hc
      have l10 : (10 : Int32) = iI 10 := by decide
      obtain ⟨one', i1, i2, i3, i4, i5⟩ := ih (k + 1) m (upd (upd one k ((iI v - (10 : Int32) * ci) * iI σ)) (k + 1) ((upd one k ((iI v - (10 : Int32) * ci) * iI σ)) (k + 1) + ci * iI σ)) (by omega) (by omega)
        (by rw [pk_us, pk_un (by omega), hn1, hci, iI_mul, iI_add, hc, Int.mul_add, Int.mul_comm c σ])
        (fun j h5 h6 => by rw [pk_un (by omega), pk_un (by omega)]; exact h4 j (by omega) h6)
      refine ⟨one', i1, fun j hj => ?_, fun j h5 h6 => ?_, i4, i5⟩
      · rw [i2 j (by omega), pk_un (by omega), pk_un (by omega)]
      · by_cases z : j = k
        · subst z
          rw [i2 j (by omega), pk_un (by omega), pk_us, hci, l10, iI_mul, iI_sub, iI_mul, hc, ← hv, Int.mul_comm]
        · exact i3 j (by omega) h6
    rw [f_X8_settle_L47, s_X8_settle_L47, if_neg c, if_neg c, e1, e2, e3, hval]
    have b9 : iI v ≤ (9 : Int32) ↔ v ≤ 9 := iI_le (y := 9) (by omega) (by omega) (by omega) (by omega)
    have b0 : (0 : Int32) ≤ iI v ↔ 0 ≤ v := iI_le (x := 0) (by omega) (by omega) (by omega) (by omega)
    have v1 : vp_in (nI k) 40 := vp_in_nI (by omega) (by omega)
    have v2 : vp_in (nI (k + 1)) 40 := vp_in_nI (by omega) (by omega)
    have hcv : ca x (k + 1) = if v ≤ 9 then (if 0 ≤ v then 0 else -1) else 1 := by rw [ca, ← hv]
    by_cases c9 : v ≤ 9
    · rw [if_pos (b9.mpr c9), if_pos (b9.mpr c9)]
      rw [if_pos c9] at hcv
      by_cases c0 : 0 ≤ v
      · rw [if_pos (b0.mpr c0), if_pos (b0.mpr c0)]
        rw [if_pos c0] at hcv
        obtain ⟨one', i1, i2, i3, i4, i5⟩ := key 0 0 (by decide) hcv
        exact ⟨one', i1, i2, i3, i4, by simp only [v1, v2, true_and]; exact i5⟩
      · rw [if_neg (fun q => c0 (b0.mp q)), if_neg (fun q => c0 (b0.mp q))]
        rw [if_neg c0] at hcv
        obtain ⟨one', i1, i2, i3, i4, i5⟩ := key (-1) (-1) (by decide) hcv
        exact ⟨one', i1, i2, i3, i4, by simp only [v1, v2, true_and]; exact i5⟩
    · rw [if_neg (fun q => c9 (b9.mp q)), if_neg (fun q => c9 (b9.mp q))]
      rw [if_neg c9] at hcv
      obtain ⟨one', i1, i2, i3, i4, i5⟩ := key 1 1 (by decide) hcv
      exact ⟨one', i1, i2, i3, i4, by simp only [v1, v2, true_and]; exact i5⟩
