/-! numbers of the register instructions -/
theorem or_add {x y : Int32} (h : ∀ i, i < 32 → (bt x i && bt y i) = false) : x ||| y = x + y := by
  refine Int32.toBitVec_inj.mp ?_
  rw [Int32.toBitVec_or, Int32.toBitVec_add]
  refine (BitVec.add_eq_or_of_and_eq_zero _ _ (BitVec.eq_of_getLsbD_eq fun i hi => ?_)).symm
  rw [BitVec.getLsbD_and, BitVec.getLsbD_zero]
  exact h i hi
theorem b_m256 : ∀ i, i < 32 → bt (-256) i = decide (8 ≤ i) := by decide +kernel
theorem nI_hi {y : Nat} (hy : y < 256) {i : Nat} (hi : 8 ≤ i) : bt (nI y) i = false := by
  unfold bt
  have h1 : (nI y).toBitVec.toNat = y := pk_tn (by omega)
  rw [BitVec.getLsbD, h1]
  exact Nat.testBit_lt_two_pow (Nat.lt_of_lt_of_le hy (Nat.pow_le_pow_right (by omega) hi : 2 ^ 8 ≤ 2 ^ i))
theorem or_low (x : Int32) {y : Nat} (hy : y < 256) : (x &&& (-256 : Int32)) ||| nI y = (x &&& (-256 : Int32)) + nI y := by
  refine or_add fun i hi => ?_
  rw [b_and, b_m256 i hi]
  by_cases c : 8 ≤ i
  · rw [nI_hi hy c, Bool.and_false]
  · rw [decide_eq_false c, Bool.and_false, Bool.false_and]
theorem hold_iff : ∀ r, r < 16 → ∀ c, c < 4 → ((nI r &&& ((8 : Int32) >>> (nI c &&& 31))) = 0 ↔ ¬ ((nI r >>> (((3 : Int32) - nI c) &&& 31)) &&& (1 : Int32)) = 1) := by decide +kernel
theorem blk_eq (x : Int32) : ∃ j : Nat, j < 8 ∧ ((x &&& (2047 : Int32)) >>> ((8 : Int32) &&& 31)) = nI j ∧ (x &&& (2047 : Int32)) / (256 : Int32) = nI j := by
  obtain ⟨m, hm, e⟩ := pk_andE x 11 (m := 2047) (by decide)
  refine ⟨m / 256, by omega, ?_, ?_⟩
  · rw [e]; exact pk_shrN (by omega) _ 8 (by decide)
  · rw [e]; exact pk_div (d := 256) (by omega) (by omega) (by omega)
theorem low32 (x : Int32) : x.toInt64 &&& (4294967295 : Int64) = if 0 ≤ lg_cmp x.toInt64 0 then x.toInt64 else x.toInt64 + (4294967296 : Int64) := by
  have hr := q_rng x
  have ht : x.toInt64.toInt = x.toInt := Int32.toInt_toInt64 x
  have hn : (x.toInt64 &&& (4294967295 : Int64)).toBitVec.toNat = x.toInt64.toBitVec.toNat % 2 ^ 32 := by
    rw [Int64.toBitVec_and, BitVec.toNat_and, show (4294967295 : Int64).toBitVec.toNat = 2 ^ 32 - 1 by decide, Nat.and_two_pow_sub_one_eq_mod]
  have hb : x.toInt64.toInt = x.toInt64.toBitVec.toInt := rfl
  have hlt := x.toInt64.toBitVec.isLt
  refine Int64.toInt_inj.mp ?_
  have hl : (x.toInt64 &&& (4294967295 : Int64)).toInt = ((x.toInt64.toBitVec.toNat % 2 ^ 32 : Nat) : Int) := by
    show (x.toInt64 &&& (4294967295 : Int64)).toBitVec.toInt = _
    rw [BitVec.toInt_eq_toNat_cond, hn, if_pos (by omega)]
  rw [hl]
  rw [BitVec.toInt_eq_toNat_cond, ht] at hb
  by_cases c : 0 ≤ x.toInt
  · rw [if_pos ((lg_cmp_ge _ _).mpr (by rw [Int64.le_iff_toInt_le, ht]; exact c)), ht]
    split at hb <;> omega
  · rw [if_neg (fun q => c (by have := (lg_cmp_ge _ _).mp q; rw [Int64.le_iff_toInt_le, ht] at this; exact this)), Int64.toInt_add, ht, show (4294967296 : Int64).toInt = 4294967296 by decide, Int.bmod_def]
    split at hb <;> (split <;> omega)
theorem sh32 : (((32 : Int32).toInt64 &&& 63).toBitVec.smod 64).toNat = 32 := by decide
theorem dvd_eq (h x : Int32) : (h.toInt64 <<< ((32 : Int32).toInt64 &&& 63)) ||| (x.toInt64 &&& (4294967295 : Int64)) = (h.toInt64 <<< ((32 : Int32).toInt64 &&& 63)) + (x.toInt64 &&& (4294967295 : Int64)) := by
  refine Int64.toBitVec_inj.mp ?_
  rw [Int64.toBitVec_or, Int64.toBitVec_add]
  refine (BitVec.add_eq_or_of_and_eq_zero _ _ (BitVec.eq_of_getLsbD_eq fun i hi => ?_)).symm
  rw [BitVec.getLsbD_and, BitVec.getLsbD_zero, Int64.toBitVec_and, BitVec.getLsbD_and, Int64.toBitVec_shiftLeft, BitVec.shiftLeft_eq', sh32, BitVec.getLsbD_shiftLeft]
  by_cases c : i < 32
  · rw [decide_eq_true c]; simp
  · have : (4294967295 : Int64).toBitVec.getLsbD i = false := by
      rw [BitVec.getLsbD, show (4294967295 : Int64).toBitVec.toNat = 2 ^ 32 - 1 by decide, Nat.testBit_two_pow_sub_one, decide_eq_false c]
    rw [this, Bool.and_false, Bool.and_false]
/-- the range of an int -/
theorem fits_int (v : Int64) : lg_cmp v v.toInt32.toInt64 = 0 ↔ ¬ 0 < lg_cmp v 2147483647 ∧ 0 ≤ lg_cmp v (-2147483648) := by
  rw [lg_cmp_eq, lg_cmp_gt, lg_cmp_ge, Int64.lt_iff_toInt_lt, Int64.le_iff_toInt_le, show (2147483647 : Int64).toInt = 2147483647 by decide, show (-2147483648 : Int64).toInt = -2147483648 by decide]
  refine ⟨fun q => ?_, fun q => (lg_i2l_l2i (by omega) (by omega)).symm⟩
  have h := q_rng v.toInt32
  rw [q, Int32.toInt_toInt64]
  omega
