/-! halfwords and words: the class's storage against the reference's rows -/
theorem byteAt_in (B : rw_) (k : Nat) (h : k < 2048) : f_X6_byteAt B (nI k) = uB B k := by
  unfold f_X6_byteAt
  rw [if_neg (nI_pos (by omega)), if_neg (show ¬ (2048 : Int32) ≤ nI k from nI_ge (b := 2048) h (by omega)), nI_clamp (by omega)]
  rfl
theorem fuel_n {n : Nat} (h : n < 2 ^ 31) : ((nI n).toInt - (0 : Int32).toInt).toNat + 1 = n + 1 := by rw [nI_toInt h, q_0]; omega
theorem s_field_loop (b : rw_) (a n : Nat) (hn : n ≤ 2048) (ha : a + n ≤ 2048) : ∀ (d k : Nat) (x : Int32) (fuel : Nat), k + d = n → d < fuel → s_X8_field_L5 b (nI a) (nI n) fuel (nI k) x := by
  intro d
  induction d with
  | zero =>
    intro k x fuel hk hf
    obtain ⟨f, rfl⟩ : ∃ f, fuel = f + 1 := ⟨fuel - 1, by omega⟩
    rw [s_X8_field_L5, if_pos (nI_le (by omega) (by omega))]
    trivial
  | succ d ih =>
    intro k x fuel hk hf
    obtain ⟨f, rfl⟩ : ∃ f, fuel = f + 1 := ⟨fuel - 1, by omega⟩
    rw [s_X8_field_L5, if_neg (nI_ge (by omega) (by omega)), nI_add, nI_1]
    exact ⟨vp_in_nI (by omega) (by omega), ih (k + 1) _ f (by omega) (by omega)⟩
theorem s_field_ok (b : rw_) (a n : Nat) (ha : a + n ≤ 2048) : s_X8_field b (nI a) (nI n) := by
  unfold s_X8_field
  rw [fuel_n (by omega)]
  exact s_field_loop b a n (by omega) ha n 0 0 (n + 1) (by omega) (by omega)
theorem s_put_loop (v : Int32) (a n : Nat) (hn : n ≤ 2048) (ha : a + n ≤ 2048) : ∀ (d k : Nat) (b : rw_) (fuel : Nat), k + d = n → d < fuel → s_X8_put_L3 (nI a) v (nI n) fuel b (nI k) := by
  intro d
  induction d with
  | zero =>
    intro k b fuel hk hf
    obtain ⟨f, rfl⟩ : ∃ f, fuel = f + 1 := ⟨fuel - 1, by omega⟩
    rw [s_X8_put_L3, if_pos (nI_le (by omega) (by omega))]
    trivial
  | succ d ih =>
    intro k b fuel hk hf
    obtain ⟨f, rfl⟩ : ∃ f, fuel = f + 1 := ⟨fuel - 1, by omega⟩
    have e1 : nI k + (1 : Int32) = nI (k + 1) := nI_1 k
    rw [s_X8_put_L3, if_neg (nI_ge (by omega) (by omega)), e1]
    refine ⟨?_, ih (k + 1) _ f (by omega) (by omega)⟩
    rw [nI_add]
    exact vp_in_nI (by omega) (by omega)
theorem s_put_ok (b : rw_) (a : Nat) (v : Int32) (n : Nat) (ha : a + n ≤ 2048) : s_X8_put b (nI a) v (nI n) := by
  unfold s_X8_put
  rw [fuel_n (by omega)]
  exact s_put_loop v a n (by omega) ha n 0 b (n + 1) (by omega) (by omega)
theorem word_field_loop (B : rw_) (a : Nat) (ha : a + 4 ≤ 2048) : ∀ (d k : Nat) (x : Int32) (fuel : Nat), k + d = 4 → d < fuel → f_X6_wordAt_L4 B (nI a) fuel (nI k) x = f_X8_field_L5 (uB B) (nI a) (nI 4) fuel (nI k) x := by
  intro d
  induction d with
  | zero =>
    intro k x fuel hk hf
    obtain ⟨f, rfl⟩ : ∃ f, fuel = f + 1 := ⟨fuel - 1, by omega⟩
    have c : nI 4 ≤ nI k := nI_le (by omega) (by omega)
    rw [f_X6_wordAt_L4, f_X8_field_L5, if_pos c, if_pos (show (4 : Int32) ≤ nI k from c)]
  | succ d ih =>
    intro k x fuel hk hf
    obtain ⟨f, rfl⟩ : ∃ f, fuel = f + 1 := ⟨fuel - 1, by omega⟩
    have c : ¬ nI 4 ≤ nI k := nI_ge (by omega) (by omega)
    have e1 : nI k + (1 : Int32) = nI (k + 1) := nI_1 k
    rw [f_X6_wordAt_L4, f_X8_field_L5, if_neg c, if_neg (show ¬ (4 : Int32) ≤ nI k from c), nI_add, byteAt_in B (a + k) (by omega), e1, nI_clamp (by omega)]
    exact ih (k + 1) _ f (by omega) (by omega)
theorem wordAt_eq (B : rw_) (a : Nat) (ha : a + 4 ≤ 2048) : f_X6_wordAt B (nI a) = f_X8_field (uB B) (nI a) 4 := word_field_loop B a ha 4 0 0 _ rfl (by decide)
theorem or0 (x : Int32) : (0 : Int32) <<< ((8 : Int32) &&& 31) ||| x = x := by
  apply b_ext
  intro i hi
  rw [b_or, b_shl8 0 hi, b_0]
  simp
theorem field2 (b : rw_) (a : Nat) (ha : a + 2 ≤ 2048) : f_X8_field b (nI a) 2 = (b a <<< ((8 : Int32) &&& 31)) ||| b (a + 1) := by
  unfold f_X8_field
  rw [show (((2 : Int32) : Int32).toInt - (0 : Int32).toInt).toNat + 1 = 3 by decide]
  rw [f_X8_field_L5, if_neg (by decide), f_X8_field_L5, if_neg (by decide), f_X8_field_L5, if_pos (by decide), or0]
  rw [show (0 : Int32) + 1 = nI 1 by decide, show (0 : Int32) = nI 0 from rfl, nI_add, nI_add, nI_clamp (by omega), nI_clamp (by omega)]
  rfl
theorem halfAt_eq (B : rw_) (a : Nat) (ha : a + 2 ≤ 2048) : f_X6_halfAt B (nI a) = f_X8_field (uB B) (nI a) 2 := by
  rw [field2 _ _ ha]
  unfold f_X6_halfAt
  rw [byteAt_in B a (by omega), nI_1, byteAt_in B (a + 1) (by omega)]
theorem shr0 (v : Int32) : v >>> (((8 : Int32) * 0) &&& 31) = v := by
  apply b_ext
  intro i hi
  rw [show (8 : Int32) * 0 = nI 0 by decide, b_sshr 0 (by decide) v hi]
  simp [hi]
theorem put2 (b : rw_) (a : Nat) (v : Int32) (ha : a + 2 ≤ 2048) : f_X8_put b (nI a) v 2 = upd (upd b a ((v >>> ((8 : Int32) &&& 31)) &&& 255)) (a + 1) (v &&& 255) := by
  unfold f_X8_put
  rw [show (((2 : Int32) : Int32).toInt - (0 : Int32).toInt).toNat + 1 = 3 by decide]
  rw [f_X8_put_L3, if_neg (by decide), f_X8_put_L3, if_neg (by decide), f_X8_put_L3, if_pos (by decide)]
  rw [show ((2 : Int32) - 1) - (0 + 1) = 0 by decide, shr0, show (8 : Int32) * ((2 - 1) - 0) = 8 by decide, show (0 : Int32) + 1 = nI 1 by decide, show (nI a + (0 : Int32)) = nI a by rw [show (0 : Int32) = nI 0 from rfl, nI_add]; rfl, nI_add, nI_clamp (by omega), nI_clamp (by omega)]
theorem putHalf_eq (B : rw_) (a : Nat) (v : Int32) (ha : a + 2 ≤ 2048) : uB (f_X6_putHalf B (nI a) v) = f_X8_put (uB B) (nI a) v 2 := by
  rw [put2 _ _ _ ha]
  unfold f_X6_putHalf
  simp only [q_let]
  rw [nI_1, putByte_in _ _ _ (by omega), putByte_in _ _ _ (by omega), uB_put, uB_put]
