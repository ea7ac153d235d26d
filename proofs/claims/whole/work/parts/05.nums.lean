/-! my own rows on numbers: indices in range, loops that go up and down -/
theorem q_lt {x y : Int32} : x < y ↔ x.toInt < y.toInt := Int32.lt_iff_toInt_lt
theorem q_le {x y : Int32} : x ≤ y ↔ x.toInt ≤ y.toInt := Int32.le_iff_toInt_le
theorem q_0 : (0 : Int32).toInt = 0 := by decide
theorem q_in {x n : Int32} {N : Nat} (h0 : ¬ x < 0) (h1 : ¬ n ≤ x) (hn : n.toInt = N) : vp_in x N := by
  rw [q_lt, q_0] at h0
  rw [q_le, hn] at h1
  exact vp_in_iff.mpr ⟨by omega, by omega⟩
theorem q_nn {x : Int32} (h : 0 ≤ x) : ¬ x < 0 := by
  rw [q_le, q_0] at h
  rw [q_lt, q_0]
  omega
theorem q_lt_nle {x n : Int32} (h : x < n) : ¬ n ≤ x := by
  rw [q_lt] at h
  rw [q_le]
  omega
theorem q_in16 (x : Int32) : vp_in (x &&& 15) 16 := pk_andIn x 4 (by decide) (by decide)
theorem q_in8 (x : Int32) : vp_in (x &&& 7) 8 := pk_andIn x 3 (by decide) (by decide)
theorem q_rng (x : Int32) : -2147483648 ≤ x.toInt ∧ x.toInt < 2147483648 := ⟨x.le_toInt, x.toInt_lt⟩
theorem q_addI {x y : Int32} (h1 : -2147483648 ≤ x.toInt + y.toInt) (h2 : x.toInt + y.toInt < 2147483648) : (x + y).toInt = x.toInt + y.toInt := by
  rw [Int32.toInt_add]
  exact Int.bmod_eq_of_le (by omega) (by omega)
theorem q_subI {x y : Int32} (h1 : -2147483648 ≤ x.toInt - y.toInt) (h2 : x.toInt - y.toInt < 2147483648) : (x - y).toInt = x.toInt - y.toInt := by
  rw [Int32.toInt_sub]
  exact Int.bmod_eq_of_le (by omega) (by omega)
theorem q_1 : (1 : Int32).toInt = 1 := by decide
theorem q_m1 : (-1 : Int32).toInt = -1 := by decide
theorem q_inc {k n : Int32} (c : k.toInt < n.toInt) : (k + 1).toInt = k.toInt + 1 := by
  have h1 := q_rng n
  have h2 := q_rng k
  rw [q_addI (by rw [q_1]; omega) (by rw [q_1]; omega), q_1]
theorem q_up {k n : Int32} {fuel : Nat} (h : (n.toInt - k.toInt).toNat < fuel + 1) (c : ¬ n ≤ k) : (n.toInt - (k + 1).toInt).toNat < fuel := by
  rw [q_le] at c
  rw [q_inc (n := n) (by omega)]
  omega
theorem q_upnn {k n : Int32} (h : ¬ k < 0) (c : ¬ n ≤ k) : ¬ k + 1 < 0 := by
  rw [q_le] at c
  rw [q_lt, q_0] at h ⊢
  rw [q_inc (n := n) (by omega)]
  omega
theorem q_dec1 {k : Int32} (c : ¬ k < 0) : (k + (-1)).toInt = k.toInt - 1 := by
  have h2 := q_rng k
  rw [q_lt, q_0] at c
  rw [q_addI (by rw [q_m1]; omega) (by rw [q_m1]; omega), q_m1]
  omega
theorem q_dn {k : Int32} {fuel : Nat} (h : (k.toInt + 1).toNat < fuel + 1) (c : ¬ k < 0) : ((k + (-1)).toInt + 1).toNat < fuel := by
  have hd := q_dec1 c
  rw [q_lt, q_0] at c
  rw [hd]
  omega
theorem q_ple {k n : Int32} {fuel : Nat} (h : (n.toInt + 1 - k.toInt).toNat < fuel + 1) (c : ¬ n < k) (h7 : n.toInt ≤ 7) : (n.toInt + 1 - (k + 1).toInt).toNat < fuel := by
  have h2 := q_rng k
  rw [q_lt] at c
  rw [q_addI (by rw [q_1]; omega) (by rw [q_1]; omega), q_1]
  omega
theorem q_min7 (x : Int32) : (if (7 : Int32) < x then (7 : Int32) else x).toInt ≤ 7 := by
  split
  · decide
  · rename_i h
    rw [q_lt] at h
    have : (7 : Int32).toInt = 7 := by decide
    omega
