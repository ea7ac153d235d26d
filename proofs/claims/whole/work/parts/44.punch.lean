/-! punch and card -/
theorem rg_nI {x : Int32} {n : Nat} (h : rg x n) (hn : n < 2 ^ 31) : ∃ j : Nat, j < n ∧ x = nI j := by
  obtain ⟨h0, h1⟩ := h
  obtain ⟨j, hj, e⟩ := nI_of (x := x) (by rw [q_lt, q_0]; omega)
  subst e
  rw [nI_toInt hj] at h1
  exact ⟨j, by omega, rfl⟩
theorem nI_rg {j : Nat} {n : Int} (h : (j : Int) < n) (hj : j < 2 ^ 31) : rg (nI j) n := ⟨by rw [nI_toInt hj]; omega, by rw [nI_toInt hj]; exact h⟩
theorem rd_append {f : Nat} {front wait rlen tkn : Int32} {lens mkg qu rc : rw_} {r : Nat} {tsz rd : Int32} {card filled tk : rw_} (hr : r ≤ 8) (hf : f < 16) (x y : Int32) (hxy : x &&& 255 = y)
    (h : Q_rd (nI f) front wait rlen tkn lens mkg qu rc (nI r) tsz rd card filled tk) :
    Q_rd (nI (f + 1)) front wait rlen tkn lens (upd mkg f (vp_nar .byte x.toInt8.toInt32)) qu rc (nI r) tsz rd (upd card (16 * r + f) y) (upd filled r (nI (f + 1))) tk := by
  obtain ⟨h1, h2, h3, h4, h5, h6, h7, h8, h9, h10, h11, h12, h13, h14, h15⟩ := h
  have er : (nI r).toNatClampNeg = r := nI_clamp (by omega)
  rw [er] at h4 h5 h6 h7
  rw [nI_clamp (by omega)] at h7
  refine ⟨h1, h2, h3, ?_, ?_, ?_, ?_, h8, h9, h10, h11, h12, h13, ?_, h15⟩
  · rw [er, pk_us]
  · rw [er]
    intro j hj
    unfold upd
    split
    · exact nI_rg (by omega) (by omega)
    · exact h5 j hj
  · rw [er]
    intro j hj
    have hne : j ≠ r := by omega
    obtain ⟨a1, a2⟩ := h6 j hj
    rw [pk_un hne]
    refine ⟨a1, fun t ht => ?_⟩
    rw [a2 t ht]
    obtain ⟨g, hg, eg⟩ := rg_nI (n := 17) (h5 j (by omega)) (by omega)
    rw [eg, nI_clamp (by omega)] at ht
    rw [pk_un (by omega)]
  · rw [er, nI_clamp (by omega)]
    intro t ht
    unfold upd
    by_cases e : t = f
    · rw [if_pos e, if_pos (by omega), nar_and, hxy]
    · rw [if_neg e, if_neg (by omega)]
      exact h7 t (by omega)
  · intro j
    unfold upd
    split
    · rw [pk_vb]; exact pk_fb x
    · exact h14 j
theorem sub1 (x : Int32) : x + (-1) = x - 1 := by rw [Int32.sub_eq_add_neg]
theorem punch_loop (v : Int64) (o : tO) (r : Nat) (hr : r ≤ 8) (ho : o.2.2.2.2.2.2.2.2.2.2.2.2.2.2.2.2.2.2.2.2.1 = nI r) (front wait rlen tkn : Int32) (lens qu rc : rw_) (tsz rd : Int32) (tk : rw_) :
    ∀ (k f : Nat) (mkg card filled : rw_) (fuel : Nat), k ≤ 8 → f + k ≤ 16 → k < fuel → Q_rd (nI f) front wait rlen tkn lens mkg qu rc (nI r) tsz rd card filled tk →
      ∃ mkg' card' filled', f_X7_punch_L39 v fuel (nI f, front, wait, rlen, tkn) mkg (nI k - 1) = (true, (nI (f + k), front, wait, rlen, tkn), mkg') ∧ f_X8_punch_L34 o v fuel card filled (nI k - 1) = (true, card', filled') ∧ s_X8_punch_L34 o v fuel card filled (nI k - 1) ∧ Q_rd (nI (f + k)) front wait rlen tkn lens mkg' qu rc (nI r) tsz rd card' filled' tk := by
  intro k
  induction k with
  | zero =>
    intro f mkg card filled fuel _ _ hfu h
    obtain ⟨g, rfl⟩ : ∃ g, fuel = g + 1 := ⟨fuel - 1, by omega⟩
    have hneg : nI 0 - 1 < 0 := by decide
    rw [f_X7_punch_L39, f_X8_punch_L34, s_X8_punch_L34, if_pos hneg, if_pos hneg, if_pos hneg]
    exact ⟨mkg, card, filled, rfl, rfl, trivial, h⟩
  | succ k ih =>
    intro f mkg card filled fuel hk hfk hfu h
    obtain ⟨g, rfl⟩ : ∃ g, fuel = g + 1 := ⟨fuel - 1, by omega⟩
    rw [nI_pred]
    have hnn : ¬ nI k < 0 := nI_pos (by omega)
    rw [f_X7_punch_L39, f_X8_punch_L34, s_X8_punch_L34, if_neg hnn, if_neg hnn, if_neg hnn, ho]
    have hfr : filled r = nI f := by
      have := h.2.2.2.1
      rw [nI_clamp (by omega)] at this
      exact this.symm
    have hap : f_X4_append (nI f, front, wait, rlen, tkn) mkg (f_X7_byteOf v (nI k)) = ((nI (f + 1), front, wait, rlen, tkn), upd mkg f (vp_nar .byte (f_X7_byteOf v (nI k)).toInt8.toInt32)) := by
      unfold f_X4_append
      have c1 : ¬ nI f < 0 := nI_pos (by omega)
      have c2 : ¬ (16 : Int32) ≤ nI f := nI_ge (b := 16) (by omega) (by omega)
      show (if nI f < 0 then _ else if (16 : Int32) ≤ nI f then _ else _) = _
      rw [if_neg c1, if_neg c2, nI_clamp (by omega)]
      show ((nI f + 1, front, wait, rlen, tkn), _) = _
      rw [nI_1]
    have hix : (16 : Int32) * nI r + filled (nI r).toNatClampNeg = nI (16 * r + f) := by rw [nI_clamp (by omega), hfr, show (16 : Int32) = nI 16 from rfl, pk_mul, nI_add]
    have h2 := rd_append hr (by omega) (f_X7_byteOf v (nI k)) (f_X7_byteOf v (nI k)) (byteOf_255 v _) h
    obtain ⟨mkg', card', filled', e1, e2, e3, e4⟩ := ih (f + 1) _ _ _ g (by omega) (by omega) (by omega) h2
    refine ⟨mkg', card', filled', ?_, ?_, ?_, ?_⟩
    · simp only [q_let]
      rw [hap, sub1]
      show f_X7_punch_L39 v g (nI (f + 1), front, wait, rlen, tkn) (upd mkg f (vp_nar .byte (f_X7_byteOf v (nI k)).toInt8.toInt32)) (nI k - 1) = _
      rw [e1, show f + 1 + k = f + (k + 1) by omega]
    · rw [hix, nI_clamp (by omega), nI_clamp (by omega), hfr, nI_1, sub1, ← ld_byte v k (by omega)]
      exact e2
    · rw [hix, nI_clamp (by omega), nI_clamp (by omega), hfr, nI_1, sub1, ← ld_byte v k (by omega)]
      exact ⟨vp_in_nI (by omega) (by omega), vp_in_nI (by omega) (by omega), vp_in_nI (by omega) (by omega), vp_in_nI (by omega) (by omega), e3⟩
    · rw [show f + (k + 1) = f + 1 + k by omega]
      exact e4
