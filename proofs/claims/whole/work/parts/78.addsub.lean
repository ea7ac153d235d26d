/-! a sum of two packed numbers, both sides -/
theorem yd_none (x : Nat → Int) (h : ∀ k, x k = 0) (k : Nat) : ca x k = 0 ∧ yd x k = 0 := by
  have : ∀ k, ca x k = 0 := by
    intro k
    induction k with
    | zero => rfl
    | succ k ih => rw [ca, h k, ih]; rfl
  refine ⟨this k, ?_⟩
  unfold yd
  rw [h k, this k, this (k + 1)]
  rfl
theorem fin (X x : Nat → Int) (nsel : Bool) (D' : rw_) (hX : ∀ k, -18 ≤ X k ∧ X k ≤ 18) (hX0 : tp X 40 = 0 → ∀ k, X k = 0) (hy : ∀ k, x k = tp X 40 * X k) (hx : ∀ k, -9 ≤ x k ∧ x k ≤ 18) (hx32 : ∀ k, 32 ≤ k → x k = 0) (hc : ca x 32 = 0)
    (hz : (∀ k, k < 32 → yd x k = 0) → ∀ k, k < 32 → x k = 0) (ht : tp X 40 = 0 ∨ tp X 40 = sg nsel) (hD : ∀ k, k < 32 → D' k = iI (yd x k)) :
    ∃ (r : Nat → Int) (ng : Bool), (if nsel = true then (if f_X1_isZero D' 32 = true then (false, D') else (true, D')) else (false, D')) = (ng, D') ∧ (∀ k, 0 ≤ r k ∧ r k ≤ 9) ∧ (∀ k, 32 ≤ k → r k = 0) ∧ (∀ k, k < 32 → D' k = iI (r k)) ∧
      ((tp X 40 = 0 ∧ (∀ k, r k = 0) ∧ ng = false) ∨ (tp X 40 = sg ng ∧ ∃ k, k < 32 ∧ ¬ r k = 0)) ∧
      (∀ one, (∀ j, j < 40 → one j = iI (X j)) → ∃ one', f_X8_settle one = (iI (tp X 40), one') ∧ (∀ j, j < 40 → one' j = iI (sg ng * r j)) ∧ s_X8_settle one) := by
  have hca : ∀ k, 32 ≤ k → ca x k = 0 := fun k hk => by
    have := ca_after x 32 hc hx32 (k - 32)
    rwa [show 32 + (k - 32) = k by omega] at this
  have hyd : ∀ k, 32 ≤ k → yd x k = 0 := fun k hk => by
    unfold yd
    rw [hx32 k hk, hca k hk, hca (k + 1) (by omega)]
    rfl
  have hydr := fun k => yd_rg x k (hx k)
  have hiz : f_X1_isZero D' 32 = true ↔ ∀ k, k < 32 → yd x k = 0 := by
    rw [isZero32]
    refine ⟨fun q k hk => ?_, fun q k hk => ?_⟩
    · have h1 := q k hk
      have h2 := hydr k
      rw [hD k hk] at h1
      exact (iI_eq (y := 0) (by omega) (by omega) (by omega) (by omega)).mp h1
    · rw [hD k hk, q k hk]; decide
  by_cases c : ∀ k, k < 32 → yd x k = 0
  · have hx0 : ∀ k, x k = 0 := fun k => by
      by_cases z : k < 32
      · exact hz c k z
      · exact hx32 k (by omega)
    have hXz : ∀ k, X k = 0 := by
      rcases tp_01 X 40 with q | q | q
      · exact hX0 q
      · intro k; have := hy k; rw [q, hx0 k] at this; omega
      · intro k; have := hy k; rw [q, hx0 k] at this; omega
    have ht0 : tp X 40 = 0 := tp_z X 40 (fun j _ => hXz j)
    have hr0 : ∀ k, yd x k = 0 := fun k => (yd_none x hx0 k).2
    refine ⟨yd x, false, ?_, hydr, hyd, hD, Or.inl ⟨ht0, hr0, rfl⟩, fun one h => ?_⟩
    · rw [if_pos (hiz.mpr c), ite_self]
    · obtain ⟨one', g1, g2, g3, g4⟩ := settle_eq X x hX hy hX0 one h
      refine ⟨one', g1, fun j hj => ?_, g4⟩
      by_cases z : j < 39
      · rw [g2 j z, hr0 j, Int.mul_zero, Int.mul_zero]
      · rw [show j = 39 by omega, g3, hx0 39, (yd_none x hx0 39).1, hr0 39, Int.add_zero, Int.mul_zero, Int.mul_zero]
  · have ht1 : tp X 40 = sg nsel := by
      rcases ht with q | q
      · exfalso
        have hx0 : ∀ k, x k = 0 := fun k => by rw [hy k, q]; omega
        exact c (fun k _ => (yd_none x hx0 k).2)
      · exact q
    refine ⟨yd x, nsel, ?_, hydr, hyd, hD, Or.inr ⟨ht1, Classical.byContradiction fun q => c (fun k hk => Classical.byContradiction fun z => q ⟨k, hk, z⟩)⟩, fun one h => ?_⟩
    · rw [if_neg (fun q => c (hiz.mp q))]
      cases nsel <;> rfl
    · obtain ⟨one', g1, g2, g3, g4⟩ := settle_eq X x hX hy hX0 one h
      refine ⟨one', g1, fun j hj => ?_, g4⟩
      by_cases z : j < 39
      · rw [g2 j z, ht1]
      · rw [show j = 39 by omega, g3, hx32 39 (by omega), hca 39 (by omega), hyd 39 (by omega), Int.add_zero, Int.mul_zero, Int.mul_zero]
theorem sg_sq (n : Bool) : sg n = 1 ∨ sg n = -1 := by
  cases n
  · exact Or.inl rfl
  · exact Or.inr rfl
theorem tp_mul (n : Bool) (x : Nat → Int) (k : Nat) : tp (fun j => sg n * x j) k = sg n * tp x k := by
  cases n
  · rw [show sg false = 1 from rfl, Int.one_mul]
    exact tp_ext _ _ _ (fun j _ => Int.one_mul _)
  · rw [show sg true = -1 from rfl, show (-1 : Int) * tp x k = -tp x k by omega, ← tp_neg]
    exact tp_ext _ _ _ (fun j _ => by show (-1 : Int) * x j = -x j; omega)
theorem tp_pos (x : Nat → Int) (h : ∀ k, 0 ≤ x k) (k : Nat) : tp x k = 0 ∨ tp x k = 1 := by
  induction k with
  | zero => exact Or.inl rfl
  | succ k ih =>
    rw [tp]
    split
    · exact ih
    · rw [if_pos (h k)]; exact Or.inr rfl
theorem addS (D E : rw_) (d e : Nat → Int) (hd : ∀ k, 0 ≤ d k ∧ d k ≤ 9) (he : ∀ k, 0 ≤ e k ∧ e k ≤ 9) (hD : ∀ k, k < 32 → D k = iI (d k)) (hE : ∀ k, k < 32 → E k = iI (e k)) (hd31 : ∀ k, 31 ≤ k → d k = 0) (he31 : ∀ k, 31 ≤ k → e k = 0) (n1 n2 : Bool) (X : Nat → Int) (hX : X = fun k => sg n1 * d k + sg n2 * e k) :
    ∃ (r : Nat → Int) (ng : Bool) (D' : rw_), f_X1_addSigned n1 D E n2 = (ng, D') ∧ (∀ k, 0 ≤ r k ∧ r k ≤ 9) ∧ (∀ k, 32 ≤ k → r k = 0) ∧ (∀ k, k < 32 → D' k = iI (r k)) ∧
      ((tp X 40 = 0 ∧ (∀ k, r k = 0) ∧ ng = false) ∨ (tp X 40 = sg ng ∧ ∃ k, k < 32 ∧ ¬ r k = 0)) ∧
      (∀ one, (∀ j, j < 40 → one j = iI (X j)) → ∃ one', f_X8_settle one = (iI (tp X 40), one') ∧ (∀ j, j < 40 → one' j = iI (sg ng * r j)) ∧ s_X8_settle one) := by
  have hXk : ∀ k, X k = sg n1 * d k + sg n2 * e k := fun k => by rw [hX]
  have hXr : ∀ k, -18 ≤ X k ∧ X k ≤ 18 := fun k => by
    have h1 := hd k
    have h2 := he k
    rw [hXk k]
    rcases sg_sq n1 with q | q <;> rcases sg_sq n2 with p | p <;> rw [q, p] <;> omega
  have hX32 : ∀ k, 32 ≤ k → X k = 0 := fun k hk => by rw [hXk k, hd31 k (by omega), he31 k (by omega)]; omega
  have hX0 : tp X 40 = 0 → ∀ k, X k = 0 := fun q k => by
    by_cases z : k < 40
    · exact tp_0 X 40 q k z
    · exact hX32 k (by omega)
  by_cases hn : n1 = n2
  · subst hn
    obtain ⟨x, hx⟩ : ∃ x : Nat → Int, x = fun j => d j + e j := ⟨_, rfl⟩
    have hxk : ∀ k, x k = d k + e k := fun k => by rw [hx]
    obtain ⟨D', g1, -, g3⟩ := addD E d e hd he hE x hx 32 0 33 D (by omega) (by omega) (fun j _ hj => hD j hj)
    have hXx : ∀ k, X k = sg n1 * x k := fun k => by rw [hXk, hxk, Int.mul_add]
    have htp : tp X 40 = sg n1 * tp x 40 := by rw [← tp_mul]; exact tp_ext _ _ _ (fun j _ => hXx j)
    have hx0 : ∀ k, 0 ≤ x k := fun k => by have := hd k; have := he k; rw [hxk]; omega
    have hpos := tp_pos x hx0 40
    have hy : ∀ k, x k = tp X 40 * X k := by
      intro k
      rcases hpos with q | q
      · rw [htp, q]
        have : X k = 0 := hX0 (by rw [htp, q]; omega) k
        rw [hXx k] at this
        rcases sg_sq n1 with p | p <;> rw [p] at this ⊢ <;> omega
      · rw [htp, q, hXx k]
        rcases sg_sq n1 with p | p <;> rw [p] <;> omega
    have hxr : ∀ k, -9 ≤ x k ∧ x k ≤ 18 := fun k => by have := hd k; have := he k; rw [hxk]; omega
    have hx31 : ∀ k, 31 ≤ k → x k = 0 := fun k hk => by rw [hxk, hd31 k hk, he31 k hk]; rfl
    have hc : ca x 32 = 0 := by
      have h1 := ca_rg x 31
      have h2 := ca_sum x hx0 31
      rw [ca, hx31 31 (by omega), if_pos (by omega), if_pos (by omega)]
    obtain ⟨r, ng, f1, f2⟩ := fin X x n1 D' hXr hX0 hy hxr (fun k hk => hx31 k (by omega)) hc (fun q => yd_zero_sum x 32 hx0 hc q) (by rcases hpos with q | q <;> rw [htp, q] <;> omega) (fun k hk => g3 k (by omega) hk)
    refine ⟨r, ng, D', ?_, f2⟩
    rw [← f1]
    unfold f_X1_addSigned f_X1_addDigits
    rw [if_pos rfl]
    simp only [q_let]
    rw [show f_X1_addDigits_L4 E ((((32 : Int32).toInt - (0 : Int32).toInt).toNat + 1)) D 0 0 = D' from g1]
  · have hbi : ¬ bI n1 = bI n2 := by
      cases n1 <;> cases n2
      · exact absurd rfl hn
      · decide
      · decide
      · exact absurd rfl hn
    have hsg : sg n2 = -sg n1 := by
      cases n1 <;> cases n2
      · exact absurd rfl hn
      · rfl
      · rfl
      · exact absurd rfl hn
    have hood := ood_eq D E d e hd he hD hE
    obtain ⟨z, hz⟩ : ∃ z : Nat → Int, z = fun j => d j - e j := ⟨_, rfl⟩
    rw [← hz] at hood
    have hzk : ∀ k, z k = d k - e k := fun k => by rw [hz]
    have hz31 : ∀ k, 31 ≤ k → z k = 0 := fun k hk => by rw [hzk, hd31 k hk, he31 k hk]; rfl
    have hzr : ∀ k, -9 ≤ z k ∧ z k ≤ 9 := fun k => by have := hd k; have := he k; rw [hzk]; omega
    have htz : tp z 40 = tp z 32 := tp_up z 32 8 (fun j hj => hz31 j (by omega))
    have hXz : ∀ k, X k = sg n1 * z k := fun k => by rw [hXk, hzk, hsg, Int.mul_sub]; rcases sg_sq n1 with p | p <;> rw [p] <;> omega
    have htp : tp X 40 = sg n1 * tp z 32 := by rw [← htz, ← tp_mul]; exact tp_ext _ _ _ (fun j _ => hXz j)
    by_cases c1 : tp z 32 = -1
    · obtain ⟨x, hx⟩ : ∃ x : Nat → Int, x = fun j => e j - d j := ⟨_, rfl⟩
      have hxk : ∀ k, x k = e k - d k := fun k => by rw [hx]
      obtain ⟨D', g1, -, g3⟩ := difS E d e hd he hE x hx 32 0 33 D (by omega) (by omega) (fun j _ hj => hD j hj)
      have hxr : ∀ k, -9 ≤ x k ∧ x k ≤ 9 := fun k => by have := hd k; have := he k; rw [hxk]; omega
      have htx : tp x 32 = 1 := by
        have h1 : tp x 32 = tp (fun j => -z j) 32 := tp_ext _ _ _ (fun j _ => by rw [hxk, hzk]; omega)
        rw [h1, tp_neg, c1]; rfl
      have hc : ca x 32 = 0 := ca_top x hxr 32 (Or.inr htx)
      have hy : ∀ k, x k = tp X 40 * X k := fun k => by
        rw [htp, c1, hXz k, hxk, hzk]
        rcases sg_sq n1 with p | p <;> rw [p] <;> omega
      obtain ⟨r, ng, f1, f2⟩ := fin X x n2 D' hXr hX0 hy (fun k => ⟨(hxr k).1, by have := (hxr k).2; omega⟩) (fun k hk => by rw [hxk, hd31 k (by omega), he31 k (by omega)]; rfl) hc (fun q => yd_zero_dif2 x 32 hxr q) (by right; rw [htp, c1, hsg]; omega) (fun k hk => g3 k (by omega) hk)
      refine ⟨r, ng, D', ?_, f2⟩
      rw [← f1]
      unfold f_X1_addSigned f_X1_takeDifferenceS
      rw [if_neg hbi, hood, c1, if_pos (by decide)]
      simp only [q_let]
      rw [show f_X1_takeDifferenceS_L5 E ((((32 : Int32).toInt - (0 : Int32).toInt).toNat + 1)) D 0 0 = D' from g1]
    · have h01 : tp z 32 = 0 ∨ tp z 32 = 1 := by rcases tp_01 z 32 with q | q | q; exact Or.inl q; exact Or.inr q; exact absurd q c1
      obtain ⟨D', g1, -, g3⟩ := difL E d e hd he hE z hz 32 0 33 D (by omega) (by omega) (fun j _ hj => hD j hj)
      have hc : ca z 32 = 0 := ca_top z hzr 32 h01
      have hy : ∀ k, z k = tp X 40 * X k := fun k => by
        rcases h01 with q | q
        · have : X k = 0 := hX0 (by rw [htp, q]; omega) k
          rw [this]
          rw [hXz k] at this
          rcases sg_sq n1 with p | p <;> rw [p] at this <;> omega
        · rw [htp, q, hXz k]
          rcases sg_sq n1 with p | p <;> rw [p] <;> omega
      obtain ⟨r, ng, f1, f2⟩ := fin X z n1 D' hXr hX0 hy (fun k => ⟨(hzr k).1, by have := (hzr k).2; omega⟩) (fun k hk => hz31 k (by omega)) hc (fun q => yd_zero_dif2 z 32 hzr q) (by rcases h01 with q | q <;> rw [htp, q] <;> omega) (fun k hk => g3 k (by omega) hk)
      refine ⟨r, ng, D', ?_, f2⟩
      rw [← f1]
      unfold f_X1_addSigned f_X1_takeDifferenceL
      rw [if_neg hbi, hood, if_neg (by rcases h01 with q | q <;> rw [q] <;> decide)]
      simp only [q_let]
      rw [show f_X1_takeDifferenceL_L5 E ((((32 : Int32).toInt - (0 : Int32).toInt).toNat + 1)) D 0 0 = D' from g1]
