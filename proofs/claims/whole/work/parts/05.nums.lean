/-! my own rows on numbers: indices in range, loops that go up and down -/
theorem q_lt {x y : Int32} : x < y ↔ x.toInt < y.toInt := Int32.lt_iff_toInt_lt
theorem q_le {x y : Int32} : x ≤ y ↔ x.toInt ≤ y.toInt := Int32.le_iff_toInt_le
theorem q_0 : (0 : Int32).toInt = 0 := by decide
theorem q_in {x n : Int32} {N : Nat} (h0 : ¬ x < 0) (h1 : ¬ n ≤ x) (hn : n.toInt = N) : vp_in x N := by
  rw [q_lt, q_0] at h0
  rw [q_le, hn] at h1
  exact vp_in_iff.mpr ⟨by omega, by omega⟩
theorem q_nn {x : Int32} (h : 0 ≤ x) : ¬ x < 0 := by
  rw [q_le, q_0] at h
  rw [q_lt, q_0]
  omega
theorem q_lt_nle {x n : Int32} (h : x < n) : ¬ n ≤ x := by
  rw [q_lt] at h
  rw [q_le]
  omega
theorem q_in16 (x : Int32) : vp_in (x &&& 15) 16 := pk_andIn x 4 (by decide) (by decide)
theorem q_in8 (x : Int32) : vp_in (x &&& 7) 8 := pk_andIn x 3 (by decide) (by decide)
theorem q_rng (x : Int32) : -2147483648 ≤ x.toInt ∧ x.toInt < 2147483648 := ⟨x.le_toInt, x.toInt_lt⟩
theorem q_addI {x y : Int32} (h1 : -2147483648 ≤ x.toInt + y.toInt) (h2 : x.toInt + y.toInt < 2147483648) : (x + y).toInt = x.toInt + y.toInt := by
  rw [Int32.toInt_add]
  exact Int.bmod_eq_of_le (by omega) (by omega)
theorem q_subI {x y : Int32} (h1 : -2147483648 ≤ x.toInt - y.toInt) (h2 : x.toInt - y.toInt < 2147483648) : (x - y).toInt = x.toInt - y.toInt := by
  rw [Int32.toInt_sub]
  exact Int.bmod_eq_of_le (by omega) (by omega)
theorem q_1 : (1 : Int32).toInt = 1 := by decide
theorem q_m1 : (-1 : Int32).toInt = -1 := by decide
theorem q_inc {k n : Int32} (c : k.toInt < n.toInt) : (k + 1).toInt = k.toInt + 1 := by
  have h1 := q_rng n
  have h2 := q_rng k
  rw [q_addI (by rw [q_1]; omega) (by rw [q_1]; omega), q_1]
theorem q_up {k n : Int32} {fuel : Nat} (h : (n.toInt - k.toInt).toNat < fuel + 1) (c : ¬ n ≤ k) : (n.toInt - (k + 1).toInt).toNat < fuel := by
  rw [q_le] at c
  rw [q_inc (n := n) (by omega)]
  omega
theorem q_upnn {k n : Int32} (h : ¬ k < 0) (c : ¬ n ≤ k) : ¬ k + 1 < 0 := by
  rw [q_le] at c
  rw [q_lt, q_0] at h ⊢
  rw [q_inc (n := n) (by omega)]
  omega
theorem q_dec1 {k : Int32} (c : ¬ k < 0) : (k + (-1)).toInt = k.toInt - 1 := by
  have h2 := q_rng k
  rw [q_lt, q_0] at c
  rw [q_addI (by rw [q_m1]; omega) (by rw [q_m1]; omega), q_m1]
  omega
theorem q_dn {k : Int32} {fuel : Nat} (h : (k.toInt + 1).toNat < fuel + 1) (c : ¬ k < 0) : ((k + (-1)).toInt + 1).toNat < fuel := by
  have hd := q_dec1 c
  rw [q_lt, q_0] at c
  rw [hd]
  omega
theorem q_ple {k n : Int32} {fuel : Nat} (h : (n.toInt + 1 - k.toInt).toNat < fuel + 1) (c : ¬ n < k) (h7 : n.toInt ≤ 7) : (n.toInt + 1 - (k + 1).toInt).toNat < fuel := by
  have h2 := q_rng k
  rw [q_lt] at c
  rw [q_addI (by rw [q_1]; omega) (by rw [q_1]; omega), q_1]
  omega
theorem q_min7 (x : Int32) : (if (7 : Int32) < x then (7 : Int32) else x).toInt ≤ 7 := by
  split
  · decide
  · rename_i h
    rw [q_lt] at h
    have : (7 : Int32).toInt = 7 := by decide
    omega
theorem q_dn32 {k : Int32} (h : ¬ 32 ≤ k) (c : ¬ k < 0) : ¬ 32 ≤ k + (-1) := by
  have hd := q_dec1 c
  rw [q_le] at h ⊢
  rw [hd]
  omega
/-- a counter that goes up by two below 32 -/
def q_r33 (x : Int32) : Prop := 0 ≤ x.toInt ∧ x.toInt ≤ 33
theorem q_32 : (32 : Int32).toInt = 32 := by decide
theorem q_2 : (2 : Int32).toInt = 2 := by decide
theorem q_r33_1 {k : Int32} (h : q_r33 k) (c : ¬ 32 ≤ k + 1) : (k + 1).toInt = k.toInt + 1 ∧ k.toInt ≤ 30 := by
  obtain ⟨h1, h2⟩ := h
  have e : (k + 1).toInt = k.toInt + 1 := by rw [q_addI (by rw [q_1]; omega) (by rw [q_1]; omega), q_1]
  rw [q_le, q_32, e] at c
  exact ⟨e, by omega⟩
theorem q_r33_e {k : Int32} (h : q_r33 k) (c : ¬ 32 ≤ k + 1) : (k + 2).toInt = k.toInt + 2 := by
  obtain ⟨-, h3⟩ := q_r33_1 h c
  obtain ⟨h1, h2⟩ := h
  rw [q_addI (by rw [q_2]; omega) (by rw [q_2]; omega), q_2]
theorem q_r33_2 {k : Int32} (h : q_r33 k) (c : ¬ 32 ≤ k + 1) : q_r33 (k + 2) := by
  obtain ⟨-, h3⟩ := q_r33_1 h c
  have e := q_r33_e h c
  obtain ⟨h1, h2⟩ := h
  exact ⟨by omega, by omega⟩
theorem q_up2 {k : Int32} {fuel : Nat} (hm : ((32 : Int32).toInt - k.toInt).toNat < fuel + 1) (h : q_r33 k) (c : ¬ 32 ≤ k + 1) : ((32 : Int32).toInt - (k + 2).toInt).toNat < fuel := by
  obtain ⟨-, h3⟩ := q_r33_1 h c
  rw [q_r33_e h c, q_32]
  rw [q_32] at hm
  omega
theorem q_r33_a {k : Int32} (h : q_r33 k) (c : ¬ 32 ≤ k + 1) : vp_in (k + 1) 32 := by
  obtain ⟨e, h3⟩ := q_r33_1 h c
  obtain ⟨h1, h2⟩ := h
  exact vp_in_iff.mpr ⟨by omega, by omega⟩
theorem q_r33_b {k : Int32} (h : q_r33 k) (c : ¬ 32 ≤ k + 1) : vp_in k 32 := by
  obtain ⟨e, h3⟩ := q_r33_1 h c
  obtain ⟨h1, h2⟩ := h
  exact vp_in_iff.mpr ⟨by omega, by omega⟩
/-- a record's place among eight -/
theorem q_seat (x : Int32) : ∃ j : Nat, j < 8 ∧ (x &&& 7) * 16 = nI (j * 16) := by
  obtain ⟨j, hj, e⟩ := pk_andE x (m := 7) 3 (by decide)
  refine ⟨j, hj, ?_⟩
  rw [e, show (16 : Int32) = nI 16 from rfl, pk_mul]
theorem q_seat0 (x : Int32) : ¬ (x &&& 7) * 16 < 0 := by
  obtain ⟨j, hj, e⟩ := q_seat x
  rw [e]
  exact nI_pos (by omega)
theorem q_seat1 (x : Int32) : ((x &&& 7) * 16).toNatClampNeg + (16 : Int32).toNatClampNeg ≤ 128 := by
  obtain ⟨j, hj, e⟩ := q_seat x
  rw [e, nI_clamp (by omega), show (16 : Int32).toNatClampNeg = 16 by decide]
  omega
theorem q_lcmp0 {x : Int64} (h : ¬ lg_cmp x 0 = 0) : ¬ x = 0 := fun e => h (by rw [e]; decide)
