/-! the reference settles a row of signed digits; the class's carries and borrows are the same -/
theorem tp_01 (x : Nat → Int) (k : Nat) : tp x k = 0 ∨ tp x k = 1 ∨ tp x k = -1 := by
  induction k with
  | zero => exact Or.inl rfl
  | succ k ih =>
    rw [tp]
    split
    · exact ih
    · split
      · exact Or.inr (Or.inl rfl)
      · exact Or.inr (Or.inr rfl)
theorem tp_0 (x : Nat → Int) (k : Nat) (h : tp x k = 0) : ∀ j, j < k → x j = 0 := by
  induction k with
  | zero => intro j hj; omega
  | succ k ih =>
    rw [tp] at h
    by_cases c : x k = 0
    · rw [if_pos c] at h
      intro j hj
      by_cases z : j = k
      · rw [z]; exact c
      · exact ih h j (by omega)
    · rw [if_neg c] at h
      split at h <;> omega
theorem tp_z (x : Nat → Int) (k : Nat) (h : ∀ j, j < k → x j = 0) : tp x k = 0 := by
  induction k with
  | zero => rfl
  | succ k ih => rw [tp, if_pos (h k (by omega))]; exact ih (fun j hj => h j (by omega))
theorem tp_ext (x y : Nat → Int) (k : Nat) (h : ∀ j, j < k → x j = y j) : tp x k = tp y k := by
  induction k with
  | zero => rfl
  | succ k ih => rw [tp, tp, h k (by omega), ih (fun j hj => h j (by omega))]
theorem tp_up (x : Nat → Int) (k d : Nat) (h : ∀ j, k ≤ j → x j = 0) : tp x (k + d) = tp x k := by
  induction d with
  | zero => rfl
  | succ d ih => rw [show k + (d + 1) = (k + d) + 1 from rfl, tp, if_pos (h _ (by omega))]; exact ih
theorem tp_neg (x : Nat → Int) (k : Nat) : tp (fun j => -x j) k = -tp x k := by
  induction k with
  | zero => rfl
  | succ k ih =>
    rw [tp, tp]
    by_cases c : x k = 0
    · rw [if_pos c, if_pos (by omega)]; exact ih
    · rw [if_neg c, if_neg (by omega)]
      by_cases c2 : 0 ≤ x k
      · rw [if_pos c2, if_neg (by omega)]
      · rw [if_neg c2, if_pos (by omega)]; rfl
theorem ca_ext (x y : Nat → Int) (k : Nat) (h : ∀ j, j < k → x j = y j) : ca x k = ca y k := by
  induction k with
  | zero => rfl
  | succ k ih => rw [ca, ca, h k (by omega), ih (fun j hj => h j (by omega))]
theorem settle3 (x : Nat → Int) (hx : ∀ k, -18 ≤ x k ∧ x k ≤ 18) (one : rw_) (h : ∀ j, j < 40 → one j = iI (x j)) : ∀ (k fuel : Nat), k ≤ 40 → k < fuel →
    f_X8_settle_L3 one fuel (iI ((k : Int) - 1)) = f_X8_settle_L47 (((39 : Int32).toInt - (0 : Int32).toInt).toNat + 1) one 0 (iI (tp x k)) ∧ (s_X8_settle_L47 (((39 : Int32).toInt - (0 : Int32).toInt).toNat + 1) one 0 (iI (tp x k)) → s_X8_settle_L3 one fuel (iI ((k : Int) - 1))) := by
  intro k
  induction k with
  | zero =>
    intro fuel _ h2
    obtain ⟨m, rfl⟩ : ∃ m, fuel = m + 1 := ⟨fuel - 1, by omega⟩
    rw [show iI (((0 : Nat) : Int) - 1) = -1 by decide, show iI (tp x 0) = 0 from (by decide : iI 0 = 0), f_X8_settle_L3, s_X8_settle_L3, if_pos (show (-1 : Int32) < 0 by decide), if_pos (show (-1 : Int32) < 0 by decide), if_neg (show ¬ (0 : Int32) ≤ -1 by decide), if_neg (show ¬ (0 : Int32) ≤ -1 by decide)]
    exact ⟨rfl, id⟩
  | succ k ih =>
    intro fuel hk h2
    obtain ⟨m, rfl⟩ : ∃ m, fuel = m + 1 := ⟨fuel - 1, by omega⟩
    have e0 : iI (((k + 1 : Nat) : Int) - 1) = nI k := by rw [← iI_n]; congr 1; omega
    have e1 : nI k + (-1) = iI ((k : Int) - 1) := by rw [← iI_n, show (-1 : Int32) = iI (-1) by decide, iI_add]; rfl
    have e2 : (nI k).toNatClampNeg = k := nI_clamp (by omega)
    have v1 : vp_in (nI k) 40 := vp_in_nI (by omega) (by omega)
    have hxk := hx k
    have z1 : iI (x k) = 0 ↔ x k = 0 := iI_eq (y := 0) (by omega) (by omega) (by omega) (by omega)
    have z2 : 0 ≤ iI (x k) ↔ 0 ≤ x k := iI_le (x := 0) (by omega) (by omega) (by omega) (by omega)
    obtain ⟨i1, i2⟩ := ih m (by omega) (by omega)
    rw [e0, f_X8_settle_L3, s_X8_settle_L3, if_neg (nI_pos (by omega)), if_neg (nI_pos (by omega)), e2, h k (by omega), tp, e1]
    by_cases c1 : x k = 0
    · rw [if_pos (z1.mpr c1), if_pos (z1.mpr c1), if_pos c1]
      exact ⟨i1, fun q => ⟨v1, i2 q⟩⟩
    · rw [if_neg (fun q => c1 (z1.mp q)), if_neg (fun q => c1 (z1.mp q)), if_neg c1, if_pos (nI_pos' (by omega)), if_pos (nI_pos' (by omega))]
      by_cases c2 : 0 ≤ x k
      · rw [if_pos (z2.mpr c2), if_pos (z2.mpr c2), if_pos c2]
        exact ⟨rfl, fun q => ⟨v1, v1, q⟩⟩
      · rw [if_neg (fun q => c2 (z2.mp q)), if_neg (fun q => c2 (z2.mp q)), if_neg c2]
        exact ⟨rfl, fun q => ⟨v1, v1, q⟩⟩
def yd (x : Nat → Int) (k : Nat) : Int := x k + ca x k - 10 * ca x (k + 1)
/-- settled: y is the row times its sign -/
theorem settle_eq (x y : Nat → Int) (hx : ∀ k, -18 ≤ x k ∧ x k ≤ 18) (hy : ∀ k, y k = tp x 40 * x k) (h0 : tp x 40 = 0 → ∀ k, x k = 0) (one : rw_) (h : ∀ j, j < 40 → one j = iI (x j)) :
    ∃ one', f_X8_settle one = (iI (tp x 40), one') ∧ (∀ j, j < 39 → one' j = iI (tp x 40 * yd y j)) ∧ one' 39 = iI (tp x 40 * (y 39 + ca y 39)) ∧ s_X8_settle one := by
  have h01 := tp_01 x 40
  obtain ⟨σ, hσ⟩ : ∃ σ, σ = tp x 40 := ⟨_, rfl⟩
  obtain ⟨i1, i2⟩ := settle3 x hx one h 40 41 (by omega) (by omega)
  rw [← hσ] at hy h0 h01 i1 i2 ⊢
  have hyr : ∀ k, -18 ≤ y k ∧ y k ≤ 18 := by
    intro k
    have := hx k
    rw [hy k]
    rcases h01 with q | q | q <;> rw [q] <;> omega
  have hσy : σ = 1 ∨ σ = -1 ∨ (σ = 0 ∧ ∀ k, y k = 0) := by
    rcases h01 with q | q | q
    · exact Or.inr (Or.inr ⟨q, fun k => by rw [hy k, q]; omega⟩)
    · exact Or.inl q
    · exact Or.inr (Or.inl q)
  have hback : ∀ k, σ * y k = x k := by
    intro k
    rw [hy k]
    rcases h01 with q | q | q
    · rw [h0 q k, q]; rfl
    · rw [q]; omega
    · rw [q]; omega
  obtain ⟨one', g1, -, g3, g4, g5⟩ := settle47 y σ hyr hσy 39 0 40 one (by omega) (by omega) (by rw [h 0 (by omega), ← hback 0]; show _ = iI (σ * (y 0 + 0)); rw [Int.add_zero]) (fun j h5 h6 => by rw [h j h6, ← hback j])
  refine ⟨one', ?_, fun j hj => g3 j (by omega) hj, g4, ?_⟩
  · exact i1.trans g1
  · exact i2 g5
theorem yd_rg (x : Nat → Int) (k : Nat) (h : -9 ≤ x k ∧ x k ≤ 18) : 0 ≤ yd x k ∧ yd x k ≤ 9 := by
  have hc := ca_rg x k
  unfold yd
  rw [ca]
  split
  · split <;> omega
  · omega
/-- sums: no borrow -/
theorem ca_sum (x : Nat → Int) (h : ∀ k, 0 ≤ x k) (k : Nat) : 0 ≤ ca x k := by
  induction k with
  | zero => exact Int.le_refl 0
  | succ k ih =>
    have := h k
    rw [ca]
    split
    · rw [if_pos (by omega)]; exact Int.le_refl 0
    · omega
theorem ca_dif (x : Nat → Int) (h : ∀ k, x k ≤ 9) (k : Nat) : ca x k ≤ 0 := by
  induction k with
  | zero => exact Int.le_refl 0
  | succ k ih =>
    have := h k
    rw [ca, if_pos (by omega)]
    split <;> omega
theorem ca_top (x : Nat → Int) (h : ∀ k, -9 ≤ x k ∧ x k ≤ 9) (k : Nat) (ht : tp x k = 0 ∨ tp x k = 1) : ca x k = 0 := by
  induction k with
  | zero => rfl
  | succ k ih =>
    have hk := h k
    have hd := ca_dif x (fun j => (h j).2) k
    have hr := ca_rg x k
    rw [tp] at ht
    rw [ca, if_pos (by omega)]
    by_cases c : x k = 0
    · rw [if_pos c] at ht
      rw [ih ht, c]; rfl
    · rw [if_neg c] at ht
      by_cases c2 : 0 ≤ x k
      · rw [if_pos (by omega)]
      · rw [if_neg c2] at ht; omega
theorem ca_after (x : Nat → Int) (n : Nat) (h0 : ca x n = 0) (h : ∀ k, n ≤ k → x k = 0) (d : Nat) : ca x (n + d) = 0 := by
  induction d with
  | zero => exact h0
  | succ d ih => rw [show n + (d + 1) = (n + d) + 1 from rfl, ca, h _ (by omega), ih]; rfl
/-- digits that are all 0 come from a row that is all 0 -/
theorem yd_zero_dif (x : Nat → Int) (n : Nat) (h : ∀ k, -9 ≤ x k ∧ x k ≤ 9) (hz : ∀ k, k < n → yd x k = 0) : ∀ k, k ≤ n → ca x k = 0 := by
  intro k
  induction k with
  | zero => intro _; rfl
  | succ k ih =>
    intro hk
    have h1 := hz k (by omega)
    have h2 := ih (by omega)
    have h3 := h k
    have h4 := ca_rg x (k + 1)
    unfold yd at h1
    omega
theorem yd_zero_sum (x : Nat → Int) (n : Nat) (h : ∀ k, 0 ≤ x k) (hn : ca x n = 0) (hz : ∀ k, k < n → yd x k = 0) : ∀ k, k < n → x k = 0 := by
  have key : ∀ d k, k + d = n → ca x k = 0 := by
    intro d
    induction d with
    | zero => intro k hk; rw [show k = n by omega]; exact hn
    | succ d ih =>
      intro k hk
      have h1 := hz k (by omega)
      have h2 := ih (k + 1) (by omega)
      have h3 := h k
      have h4 := ca_sum x h k
      unfold yd at h1
      omega
  intro k hk
  have h1 := hz k hk
  have h2 := key (n - k) k (by omega)
  have h3 := key (n - (k + 1)) (k + 1) (by omega)
  unfold yd at h1
  omega
theorem yd_zero_dif2 (x : Nat → Int) (n : Nat) (h : ∀ k, -9 ≤ x k ∧ x k ≤ 9) (hz : ∀ k, k < n → yd x k = 0) : ∀ k, k < n → x k = 0 := by
  intro k hk
  have h1 := hz k hk
  have h2 := yd_zero_dif x n h hz k (by omega)
  have h3 := yd_zero_dif x n h hz (k + 1) (by omega)
  unfold yd at h1
  omega
