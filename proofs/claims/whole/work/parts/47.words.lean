/-! words put, and three bytes read -/
theorem pw_s2 : ∀ m, m < 4 → (((8 : Int32) * nI m).toInt64.toUInt64 &&& Int64.toUInt64 63).toNat = 8 * m := by decide
theorem pw_e : ∀ m, m < 4 → (8 : Int32) * nI m = nI (8 * m) := by decide
theorem pw_byte (v : Int32) (m : Nat) (hm : m < 4) : f_X7_byteOf v.toInt64 (nI m) = (v >>> (((8 : Int32) * nI m) &&& 31)) &&& 255 := by
  unfold f_X7_byteOf
  apply b_ext
  intro i hi
  rw [b_and, b_and, b_255, pw_e m hm, b_sshr (8 * m) (by omega) v hi]
  have e : (v.toInt64.toUInt64 >>> ((nI (8 * m)).toInt64.toUInt64 &&& Int64.toUInt64 63)).toInt64.toBitVec = v.toInt64.toBitVec >>> (8 * m) := by
    apply BitVec.eq_of_toNat_eq
    show (v.toInt64.toUInt64 >>> _).toNat = _
    rw [UInt64.toNat_shiftRight, ← pw_e m hm, pw_s2 m hm, Nat.mod_eq_of_lt (by omega), BitVec.toNat_ushiftRight]
    rfl
  by_cases h8 : i < 8
  · rw [if_pos (show 8 * m + i < 32 by omega)]
    unfold bt
    rw [Int64.toBitVec_toInt32, e, Int32.toBitVec_toInt64]
    simp only [BitVec.getLsbD_setWidth, BitVec.getLsbD_ushiftRight, BitVec.getLsbD_signExtend]
    simp [h8, hi, show 8 * m + i < 32 by omega, show 8 * m + i < 64 by omega]
    intro h
    omega
  · simp [h8]
theorem putWord_loop (v : Int32) (a : Nat) (ha : a + 4 ≤ 2048) : ∀ (d k : Nat) (B : rw_) (fuel : Nat), k + d = 4 → d < fuel → uB (f_X6_putWord_L2 (nI a) v fuel B (nI k)) = f_X8_put_L3 (nI a) v (nI 4) fuel (uB B) (nI k) := by
  intro d
  induction d with
  | zero =>
    intro k B fuel hk hf
    obtain ⟨f, rfl⟩ : ∃ f, fuel = f + 1 := ⟨fuel - 1, by omega⟩
    have c : nI 4 ≤ nI k := nI_le (by omega) (by omega)
    rw [f_X6_putWord_L2, f_X8_put_L3, if_pos c, if_pos (show (4 : Int32) ≤ nI k from c)]
  | succ d ih =>
    intro k B fuel hk hf
    obtain ⟨f, rfl⟩ : ∃ f, fuel = f + 1 := ⟨fuel - 1, by omega⟩
    have c : ¬ nI 4 ≤ nI k := nI_ge (by omega) (by omega)
    have e1 : nI k + (1 : Int32) = nI (k + 1) := nI_1 k
    have e3 : (3 : Int32) - nI k = nI (3 - k) := by rw [show (3 : Int32) = nI 3 from rfl, pk_sub (by omega)]
    have e4 : nI 4 - (1 : Int32) - nI k = nI (3 - k) := by rw [show nI 4 - (1 : Int32) = nI 3 by decide, pk_sub (by omega)]
    rw [f_X6_putWord_L2, f_X8_put_L3, if_neg c, if_neg (show ¬ (4 : Int32) ≤ nI k from c)]
    simp only [q_let]
    rw [e1, e3, e4, nI_add, putByte_in _ _ _ (by omega), nI_clamp (by omega), ih (k + 1) _ f (by omega) (by omega), uB_put, byteOf_255, pw_byte v (3 - k) (by omega)]
theorem putWord_eq (B : rw_) (a : Nat) (v : Int32) (ha : a + 4 ≤ 2048) : uB (f_X6_putWord B (nI a) v) = f_X8_put (uB B) (nI a) v 4 := putWord_loop v a ha 4 0 B _ rfl (by decide)
theorem field3 (b : rw_) (a : Nat) (ha : a + 3 ≤ 2048) : f_X8_field b (nI a) 3 = (((b a <<< ((8 : Int32) &&& 31)) ||| b (a + 1)) <<< ((8 : Int32) &&& 31)) ||| b (a + 2) := by
  unfold f_X8_field
  rw [show (((3 : Int32) : Int32).toInt - (0 : Int32).toInt).toNat + 1 = 4 by decide]
  rw [f_X8_field_L5, if_neg (by decide), f_X8_field_L5, if_neg (by decide), f_X8_field_L5, if_neg (by decide), f_X8_field_L5, if_pos (by decide), or0]
  rw [show (0 : Int32) + 1 + 1 = nI 2 by decide, show (0 : Int32) + 1 = nI 1 by decide, show (0 : Int32) = nI 0 from rfl, nI_add, nI_add, nI_add, nI_clamp (by omega), nI_clamp (by omega), nI_clamp (by omega)]
  rfl
theorem field4 (b : rw_) (a : Nat) (ha : a + 4 ≤ 2048) : f_X8_field b (nI a) 4 = (((((b a <<< ((8 : Int32) &&& 31)) ||| b (a + 1)) <<< ((8 : Int32) &&& 31)) ||| b (a + 2)) <<< ((8 : Int32) &&& 31)) ||| b (a + 3) := by
  unfold f_X8_field
  rw [show (((4 : Int32) : Int32).toInt - (0 : Int32).toInt).toNat + 1 = 5 by decide]
  rw [f_X8_field_L5, if_neg (by decide), f_X8_field_L5, if_neg (by decide), f_X8_field_L5, if_neg (by decide), f_X8_field_L5, if_neg (by decide), f_X8_field_L5, if_pos (by decide), or0]
  rw [show (0 : Int32) + 1 + 1 + 1 = nI 3 by decide, show (0 : Int32) + 1 + 1 = nI 2 by decide, show (0 : Int32) + 1 = nI 1 by decide, show (0 : Int32) = nI 0 from rfl, nI_add, nI_add, nI_add, nI_add, nI_clamp (by omega), nI_clamp (by omega), nI_clamp (by omega), nI_clamp (by omega)]
  rfl
theorem uB_hi (B : rw_) (k : Nat) {i : Nat} (h : 8 ≤ i) : bt (uB B k) i = false := by
  unfold uB
  rw [b_and, b_255]
  simp [Nat.not_lt.mpr h]
theorem b_m24 (i : Nat) : bt 16777215 i = decide (i < 24) := by
  rcases Nat.lt_or_ge i 32 with h | h
  · exact (by decide +kernel : ∀ i, i < 32 → bt 16777215 i = decide (i < 24)) i h
  · rw [b_big h, decide_eq_false (by omega)]
/-- the lower three bytes of a word -/
theorem word24 (B : rw_) (a : Nat) (ha : a + 4 ≤ 2048) : f_X6_wordAt B (nI a) &&& 16777215 = f_X8_field (uB B) (nI (a + 1)) 3 := by
  rw [wordAt_eq B a ha, field4 _ _ ha, field3 _ _ (by omega)]
  apply b_ext
  intro i hi
  simp only [b_and, b_or, b_m24, b_shl8 _ hi, show a + 1 + 1 = a + 2 by omega, show a + 1 + 2 = a + 3 by omega]
  by_cases h8 : 8 ≤ i
  · simp only [b_shl8 _ (show i - 8 < 32 by omega), b_or]
    by_cases h16 : 8 ≤ i - 8
    · simp only [b_shl8 _ (show i - 8 - 8 < 32 by omega), b_or]
      by_cases h24 : i < 24
      · simp [h8, h16, h24, show ¬ 8 ≤ i - 8 - 8 by omega]
      · have h1 := uB_hi B (a + 1) (show 8 ≤ i - 8 - 8 by omega)
        have h2 := uB_hi B (a + 2) (show 8 ≤ i - 8 by omega)
        have h3 := uB_hi B (a + 3) (show 8 ≤ i by omega)
        simp [h8, h16, h24, h1, h2, h3]
    · simp [h8, h16, show i < 24 by omega]
  · simp [h8, show i < 24 by omega]
