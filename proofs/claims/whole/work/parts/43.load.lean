/-! load -/
theorem nar_and (v : Int32) : vp_nar .byte v.toInt8.toInt32 &&& 255 = v &&& 255 := by rw [pk_vb]; exact bp_b v
theorem uB_put (B : rw_) (k : Nat) (v : Int32) : uB (upd B k (vp_nar .byte v.toInt8.toInt32)) = upd (uB B) k (v &&& 255) := by
  funext j
  unfold uB upd
  split
  · exact nar_and v
  · rfl
theorem ld_s1 : ∀ m, m < 8 → ((((8 : Int32) * nI m).toInt64 &&& 63).toBitVec.smod 64).toNat = 8 * m := by decide
theorem ld_s2 : ∀ m, m < 8 → (((8 : Int32) * nI m).toInt64.toUInt64 &&& Int64.toUInt64 63).toNat = 8 * m := by decide
theorem ld_m : ∀ i, i < 64 → (255 : Int64).toBitVec.getLsbD i = decide (i < 8) := by decide
theorem ld_byte (v : Int64) (m : Nat) (hm : m < 8) : f_X7_byteOf v (nI m) = ((v >>> (((8 : Int32) * nI m).toInt64 &&& 63)) &&& (255 : Int64)).toInt32 := by
  unfold f_X7_byteOf
  apply b_ext
  intro i hi
  rw [b_and, b_255]
  have e : (v.toUInt64 >>> (((8 : Int32) * nI m).toInt64.toUInt64 &&& Int64.toUInt64 63)).toInt64.toBitVec = v.toBitVec >>> (8 * m) := by
    apply BitVec.eq_of_toNat_eq
    show (v.toUInt64 >>> _).toNat = _
    rw [UInt64.toNat_shiftRight, ld_s2 m hm, Nat.mod_eq_of_lt (by omega), BitVec.toNat_ushiftRight]
    rfl
  unfold bt
  rw [Int64.toBitVec_toInt32, Int64.toBitVec_toInt32, e, Int64.toBitVec_and, Int64.toBitVec_shiftRight, BitVec.sshiftRight_eq', ld_s1 m hm]
  simp only [BitVec.getLsbD_signExtend, BitVec.getLsbD_setWidth, BitVec.getLsbD_and, BitVec.getLsbD_ushiftRight, BitVec.getLsbD_sshiftRight, ld_m i (by omega)]
  by_cases h8 : i < 8
  · simp [h8, hi, show i < 64 by omega, show 8 * m + i < 64 by omega, show ¬ 64 ≤ i by omega]
  · simp [h8]
    intro _ h
    omega
/-- the class's loop: what is done from byte k on -/
def ldC (B : rw_) (v : Int64) (a n k : Nat) : rw_ := fun j => if a + k ≤ j ∧ j < a + n then vp_nar .byte (f_X7_byteOf v (nI (n - 1 - (j - a)))).toInt8.toInt32 else B j
def ldM (b : rw_) (v : Int64) (a n k : Nat) : rw_ := fun j => if a ≤ j ∧ j + k < a + n then f_X7_byteOf v (nI (a + n - 1 - j)) else b j
theorem putByte_in (B : rw_) (k : Nat) (v : Int32) (h : k < 2048) : f_X6_putByte B (nI k) v = upd B k (vp_nar .byte v.toInt8.toInt32) := by
  unfold f_X6_putByte
  rw [if_neg (nI_pos (by omega)), if_neg (show ¬ (2048 : Int32) ≤ nI k from nI_ge (b := 2048) h (by omega)), nI_clamp (by omega)]
theorem ldC_loop (v : Int64) (a n : Nat) (hn : n ≤ 8) (ha : a + n ≤ 2048) : ∀ (d k : Nat) (B : rw_) (fuel : Nat), k + d = n → d < fuel → f_X7_load_L27 (nI a) v (nI n) fuel B (nI k) = (true, ldC B v a n k) := by
  intro d
  induction d with
  | zero =>
    intro k B fuel hk hf
    obtain ⟨f, rfl⟩ : ∃ f, fuel = f + 1 := ⟨fuel - 1, by omega⟩
    rw [f_X7_load_L27, if_pos (nI_le (by omega) (by omega))]
    congr 1
    funext j
    unfold ldC
    rw [if_neg (by omega)]
  | succ d ih =>
    intro k B fuel hk hf
    obtain ⟨f, rfl⟩ : ∃ f, fuel = f + 1 := ⟨fuel - 1, by omega⟩
    rw [f_X7_load_L27, if_neg (nI_ge (by omega) (by omega))]
    simp only [q_let]
    rw [nI_add, show (1 : Int32) = nI 1 from rfl, pk_sub (by omega), pk_sub (by omega), putByte_in B (a + k) _ (by omega), nI_add, ih (k + 1) _ f (by omega) (by omega)]
    congr 1
    funext j
    unfold ldC upd
    by_cases h1 : a + (k + 1) ≤ j ∧ j < a + n
    · rw [if_pos h1, if_pos (by omega)]
    · rw [if_neg h1]
      by_cases h2 : j = a + k
      · rw [if_pos h2, if_pos (by omega), h2]
        rw [show a + k - a = k by omega]
      · rw [if_neg h2, if_neg (by omega)]
theorem ldM_loop (v : Int64) (a n : Nat) (hn : n ≤ 8) (ha : a + n ≤ 2048) : ∀ (d k : Nat) (b : rw_) (fuel : Nat), k + d = n → d < fuel → f_X8_load_L32 (nI a) v (nI n) fuel b (nI k) = (true, ldM b v a n k) ∧ s_X8_load_L32 (nI a) v (nI n) fuel b (nI k) := by
  intro d
  induction d with
  | zero =>
    intro k b fuel hk hf
    obtain ⟨f, rfl⟩ : ∃ f, fuel = f + 1 := ⟨fuel - 1, by omega⟩
    rw [f_X8_load_L32, s_X8_load_L32, if_pos (nI_le (by omega) (by omega)), if_pos (nI_le (by omega) (by omega))]
    refine ⟨?_, trivial⟩
    congr 1
    funext j
    unfold ldM
    rw [if_neg (by omega)]
  | succ d ih =>
    intro k b fuel hk hf
    obtain ⟨f, rfl⟩ : ∃ f, fuel = f + 1 := ⟨fuel - 1, by omega⟩
    have hge : ¬ nI n ≤ nI k := nI_ge (by omega) (by omega)
    rw [f_X8_load_L32, s_X8_load_L32, if_neg hge, if_neg hge]
    have hix : ((nI a + nI n) - (1 : Int32)) - nI k = nI (a + n - 1 - k) := by rw [nI_add, show (1 : Int32) = nI 1 from rfl, pk_sub (by omega), pk_sub (by omega)]
    have hk1 : nI k + (1 : Int32) = nI (k + 1) := nI_1 k
    rw [hix, hk1, nI_clamp (by omega), ← ld_byte v k (by omega)]
    obtain ⟨e1, e2⟩ := ih (k + 1) (upd b (a + n - 1 - k) (f_X7_byteOf v (nI k))) f (by omega) (by omega)
    refine ⟨?_, vp_in_nI (by omega) (by omega), e2⟩
    rw [e1]
    congr 1
    funext j
    unfold ldM upd
    by_cases h1 : a ≤ j ∧ j + (k + 1) < a + n
    · rw [if_pos h1, if_pos (by omega)]
    · rw [if_neg h1]
      by_cases h2 : j = a + n - 1 - k
      · rw [if_pos h2, if_pos (by omega), h2]
        rw [show a + n - 1 - (a + n - 1 - k) = k by omega]
      · rw [if_neg h2, if_neg (by omega)]
theorem byteOf_255 (v : Int64) (k : Int32) : f_X7_byteOf v k &&& 255 = f_X7_byteOf v k := by
  unfold f_X7_byteOf
  apply b_ext
  intro i hi
  rw [b_and, b_and, b_255]
  cases bt _ i <;> simp
theorem ld_uB (B : rw_) (v : Int64) (a n : Nat) : uB (ldC B v a n 0) = ldM (uB B) v a n 0 := by
  funext j
  unfold uB ldC ldM
  by_cases h : a ≤ j ∧ j < a + n
  · rw [if_pos (by omega), if_pos (by omega), nar_and, byteOf_255]
    rw [show n - 1 - (j - a) = a + n - 1 - j by omega]
  · rw [if_neg (by omega), if_neg (by omega)]
theorem q_8 : (8 : Int32).toInt = 8 := by decide
theorem rl_load : Ok_load Rl := by
  intro i P C L line Rd lens mkg qu rc F Fd G Z Zd T B K o b card filled keys line' one reg tk two v1 v2 v3 hi h
  have hm := rl_mono i _ _ h
  obtain ⟨h1, h2, h3, h4, h5⟩ := hm
  obtain ⟨rfl, rfl, rfl, gk⟩ := h3
  unfold s_X8_load f_X7_load f_X8_load
  by_cases c1 : v3 < 1
  · rw [if_pos c1, if_pos c1, if_pos c1]; exact ⟨trivial, rfl, h1, h2, ⟨rfl, rfl, rfl, gk⟩, h4, h5⟩
  rw [if_neg c1, if_neg c1, if_neg c1]
  by_cases c2 : (8 : Int32) < v3
  · rw [if_pos c2, if_pos c2, if_pos c2]; exact ⟨trivial, rfl, h1, h2, ⟨rfl, rfl, rfl, gk⟩, h4, h5⟩
  rw [if_neg c2, if_neg c2, if_neg c2]
  rw [q_lt, q_1] at c1
  rw [q_lt, q_8] at c2
  have e2 : ((2048 : Int32) - v3).toInt = 2048 - v3.toInt := by rw [q_subI (by rw [q_2048]; omega) (by rw [q_2048]; omega), q_2048]
  unfold f_X6_holds
  by_cases c3 : v1 < 0
  · rw [if_pos c3, if_pos c3, if_pos c3, if_neg (by decide)]; exact ⟨trivial, rfl, h1, h2, ⟨rfl, rfl, rfl, gk⟩, h4, h5⟩
  rw [if_neg c3, if_neg c3, if_neg c3]
  by_cases c4 : v1 ≤ (2048 : Int32) - v3
  · have c5 : ¬ (2048 : Int32) - v3 < v1 := by rw [q_lt]; rw [q_le] at c4; omega
    rw [if_pos c4, if_pos c4, if_neg c5, if_pos rfl]
    obtain ⟨a, ha, rfl⟩ := nI_of c3
    obtain ⟨n, hn, rfl⟩ := nI_of (x := v3) (by rw [q_lt, q_0]; omega)
    rw [nI_toInt hn] at c1 c2
    rw [q_le, e2, nI_toInt hn, nI_toInt ha] at c4
    have hf : ((nI n).toInt - (0 : Int32).toInt).toNat + 1 = n + 1 := by rw [nI_toInt hn, q_0]; omega
    rw [hf, show (0 : Int32) = nI 0 from rfl]
    have hC := ldC_loop v2 a n (by omega) (by omega) n 0 B (n + 1) (by omega) (by omega)
    have hM := ldM_loop v2 a n (by omega) (by omega) n 0 (uB B) (n + 1) (by omega) (by omega)
    refine ⟨hM.2, ?_, ?_⟩
    · rw [hC, hM.1]
    · rw [hC, hM.1]
      exact ⟨h1, h2, ⟨rfl, (ld_uB B v2 a n).symm, rfl, gk⟩, h4, h5⟩
  · have c5 : (2048 : Int32) - v3 < v1 := by rw [q_lt]; rw [q_le] at c4; omega
    rw [if_neg c4, if_neg c4, if_pos c5, if_neg (by decide)]
    exact ⟨trivial, rfl, h1, h2, ⟨rfl, rfl, rfl, gk⟩, h4, h5⟩
