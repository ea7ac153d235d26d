/-! the channel's report -/
theorem put3 (b : rw_) (a : Nat) (v : Int32) (ha : a + 3 ≤ 2048) : f_X8_put b (nI a) v 3 = upd (upd (upd b a ((v >>> ((16 : Int32) &&& 31)) &&& 255)) (a + 1) ((v >>> ((8 : Int32) &&& 31)) &&& 255)) (a + 2) (v &&& 255) := by
  unfold f_X8_put
  rw [show (((3 : Int32) : Int32).toInt - (0 : Int32).toInt).toNat + 1 = 4 by decide]
  rw [f_X8_put_L3, if_neg (by decide), f_X8_put_L3, if_neg (by decide), f_X8_put_L3, if_neg (by decide), f_X8_put_L3, if_pos (by decide)]
  rw [show ((3 : Int32) - 1) - (0 + 1 + 1) = 0 by decide, shr0, show (8 : Int32) * ((3 - 1) - 0) = 16 by decide, show (8 : Int32) * ((3 - 1) - (0 + 1)) = 8 by decide, show (0 : Int32) + 1 + 1 = nI 2 by decide, show (0 : Int32) + 1 = nI 1 by decide, show (nI a + (0 : Int32)) = nI a by rw [show (0 : Int32) = nI 0 from rfl, nI_add]; rfl, nI_add, nI_add, nI_clamp (by omega), nI_clamp (by omega), nI_clamp (by omega)]
theorem put4 (b : rw_) (a : Nat) (v : Int32) (ha : a + 4 ≤ 2048) : f_X8_put b (nI a) v 4 = upd (upd (upd (upd b a ((v >>> ((24 : Int32) &&& 31)) &&& 255)) (a + 1) ((v >>> ((16 : Int32) &&& 31)) &&& 255)) (a + 2) ((v >>> ((8 : Int32) &&& 31)) &&& 255)) (a + 3) (v &&& 255) := by
  unfold f_X8_put
  rw [show (((4 : Int32) : Int32).toInt - (0 : Int32).toInt).toNat + 1 = 5 by decide]
  rw [f_X8_put_L3, if_neg (by decide), f_X8_put_L3, if_neg (by decide), f_X8_put_L3, if_neg (by decide), f_X8_put_L3, if_neg (by decide), f_X8_put_L3, if_pos (by decide)]
  rw [show ((4 : Int32) - 1) - (0 + 1 + 1 + 1) = 0 by decide, shr0, show (8 : Int32) * ((4 - 1) - 0) = 24 by decide, show (8 : Int32) * ((4 - 1) - (0 + 1)) = 16 by decide, show (8 : Int32) * ((4 - 1) - (0 + 1 + 1)) = 8 by decide, show (0 : Int32) + 1 + 1 + 1 = nI 3 by decide, show (0 : Int32) + 1 + 1 = nI 2 by decide, show (0 : Int32) + 1 = nI 1 by decide, show (nI a + (0 : Int32)) = nI a by rw [show (0 : Int32) = nI 0 from rfl, nI_add]; rfl, nI_add, nI_add, nI_add, nI_clamp (by omega), nI_clamp (by omega), nI_clamp (by omega), nI_clamp (by omega)]
theorem bt_rg {x : Int32} {k : Nat} (hk : k ≤ 30) (h : rg x (2 ^ k : Nat)) {i : Nat} (hi : k ≤ i) : bt x i = false := by
  obtain ⟨j, hj, rfl⟩ := rg_nI h (Nat.lt_of_le_of_lt (Nat.pow_le_pow_right (by decide) hk) (by decide))
  unfold bt
  rw [BitVec.getLsbD, pk_tn (Nat.lt_of_lt_of_le hj (Nat.le_of_lt (Nat.lt_of_le_of_lt (Nat.pow_le_pow_right (by decide) hk) (by decide))))]
  exact Nat.testBit_lt_two_pow (Nat.lt_of_lt_of_le hj (Nat.pow_le_pow_right (by decide) hi))
theorem k16 : ∀ k, k < 16 → ∀ i, i < 32 → bt ((16 : Int32) * nI k) i = (decide (4 ≤ i) && bt (nI k) (i - 4)) := by decide +kernel
theorem b_shl28 (x : Int32) {i : Nat} (hi : i < 32) : bt (x <<< ((28 : Int32) &&& 31)) i = (decide (28 ≤ i) && bt x (i - 28)) := b_shl 28 (by omega) x hi
theorem b_sshr16 (x : Int32) {i : Nat} (hi : i < 32) : bt (x >>> ((16 : Int32) &&& 31)) i = if 16 + i < 32 then bt x (16 + i) else bt x 31 := b_sshr 16 (by omega) x hi
theorem b_sshr24 (x : Int32) {i : Nat} (hi : i < 32) : bt (x >>> ((24 : Int32) &&& 31)) i = if 24 + i < 32 then bt x (24 + i) else bt x 31 := b_sshr 24 (by omega) x hi
theorem rp_24 (key place : Int32) (hk : rg key 16) (hp : rg place 16777216) : ((((key <<< ((28 : Int32) &&& 31)) ||| place) >>> ((24 : Int32) &&& 31)) &&& 255) = (16 : Int32) * key := by
  obtain ⟨k, hk2, rfl⟩ := rg_nI (n := 16) hk (by omega)
  apply b_ext
  intro i hi
  rw [b_and, b_255, b_sshr24 _ hi, k16 k hk2 i hi]
  by_cases h8 : i < 8
  · rw [if_pos (by omega), b_or, b_shl28 _ (by omega), bt_rg (k := 24) (by decide) hp (show 24 ≤ 24 + i by omega)]
    by_cases h4 : 4 ≤ i
    · simp [h8, h4, show 28 ≤ 24 + i by omega, show 24 + i - 28 = i - 4 by omega]
    · simp [h8, h4, show ¬ 28 ≤ 24 + i by omega]
  · rw [bt_rg (x := nI k) (k := 4) (by decide) hk (show 4 ≤ i - 4 by omega)]
    simp [h8]
theorem rp_lo (key place : Int32) {i : Nat} (hi : i < 28) : bt ((key <<< ((28 : Int32) &&& 31)) ||| place) i = bt place i := by
  rw [b_or, b_shl28 _ (by omega)]
  simp [show ¬ 28 ≤ i by omega]
theorem rp_16 (key place : Int32) : ((((key <<< ((28 : Int32) &&& 31)) ||| place) >>> ((16 : Int32) &&& 31)) &&& 255) = (place >>> ((16 : Int32) &&& 31)) &&& 255 := by
  apply b_ext
  intro i hi
  rw [b_and, b_and, b_255, b_sshr16 _ hi, b_sshr16 _ hi]
  by_cases h8 : i < 8
  · rw [if_pos (by omega), if_pos (by omega), rp_lo _ _ (by omega)]
  · simp [h8]
theorem rp_8 (key place : Int32) : ((((key <<< ((28 : Int32) &&& 31)) ||| place) >>> ((8 : Int32) &&& 31)) &&& 255) = (place >>> ((8 : Int32) &&& 31)) &&& 255 := by
  apply b_ext
  intro i hi
  rw [b_and, b_and, b_255, b_sshr8 _ hi, b_sshr8 _ hi]
  by_cases h8 : i < 8
  · rw [if_pos (by omega), if_pos (by omega), rp_lo _ _ (by omega)]
  · simp [h8]
theorem rp_0 (key place : Int32) : (((key <<< ((28 : Int32) &&& 31)) ||| place) &&& 255) = place &&& 255 := by
  apply b_ext
  intro i hi
  rw [b_and, b_and, b_255]
  by_cases h8 : i < 8
  · rw [rp_lo _ _ (by omega)]
  · simp [h8]
theorem report_eq (B : rw_) (c1 c2 : Bool) (dev key place : Int32) (c6 c7 c8 : Bool) (c9 c10 cnt unit check : Int32) (hk : rg key 16) (hp : rg place 16777216) (hu : unit &&& 255 = unit) (hc : check &&& 255 = check) :
    uB (f_X0_putReport (c1, c2, dev, key, place, c6, c7, c8, c9, c10, cnt, unit, check) B) = f_X8_put (upd (upd (f_X8_put (upd (uB B) 64 ((16 : Int32) * key)) (nI 65) place 3) 68 unit) 69 check) (nI 70) cnt 2 := by
  unfold f_X0_putReport
  simp only [q_let]
  rw [show (64 : Int32) = nI 64 from rfl, show (68 : Int32) = nI 68 from rfl, show (69 : Int32) = nI 69 from rfl, show (70 : Int32) = nI 70 from rfl]
  rw [putHalf_eq _ _ _ (by omega), putByte_in _ _ _ (by omega), putByte_in _ _ _ (by omega), uB_put, uB_put, putWord_eq _ _ _ (by omega), put4 _ _ _ (by omega), put3 _ _ _ (by omega), rp_24 key place hk hp, rp_16, rp_8, rp_0, hu, hc]
