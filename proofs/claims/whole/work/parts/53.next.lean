/-! the records behind the next one -/
theorem next_rd {made front wait rlen tkn : Int32} {lens mkg qu rc : rw_} {rdy tsz rd : Int32} {card filled tk : rw_} (h : Q_rd made front wait rlen tkn lens mkg qu rc rdy tsz rd card filled tk) (h0 : ¬ rdy = 0) :
    Q_rd made (((front &&& (7 : Int32)) + (1 : Int32)) &&& (7 : Int32)) (wait - (1 : Int32)) (lens (front &&& (7 : Int32)).toNatClampNeg) 0 lens mkg qu (va_cpy qu rc ((front &&& (7 : Int32)) * (16 : Int32)).toNatClampNeg (0 : Int32).toNatClampNeg (16 : Int32).toNatClampNeg) (rdy - (1 : Int32)) (filled 0) 0 (shf card 0 144 16) (shf filled 0 9 1) (cpy16 tk card 0) ∧ lens (front &&& (7 : Int32)).toNatClampNeg = filled 0 := by
  obtain ⟨g1, g2, g3, g4, g5, g6, g7, g8, g9, g10, g11, g12, g13, g14, g15⟩ := h
  subst g1
  obtain ⟨r, hr, rfl⟩ := rg_nI (n := 9) g2 (by omega)
  obtain ⟨fr, hfr, rfl⟩ := rg_nI (n := 8) g3 (by omega)
  have er : (nI r).toNatClampNeg = r := nI_clamp (by omega)
  have efr : (nI fr).toNatClampNeg = fr := nI_clamp (by omega)
  have hr0 : 0 < r := by
    rcases Nat.eq_zero_or_pos r with e | e
    · subst e; exact absurd rfl h0
    · exact e
  rw [er] at g4 g5 g6 g7
  rw [efr] at g6
  have e7 : nI fr &&& 7 = nI fr := by rw [and7 fr (by omega), Nat.mod_eq_of_lt hfr]
  have e71 : (nI fr + (1 : Int32)) &&& 7 = nI ((fr + 1) % 8) := by rw [nI_1, and7 _ (by omega)]
  have er1 : nI r - (1 : Int32) = nI (r - 1) := by rw [show (1 : Int32) = nI 1 from rfl, pk_sub (by omega)]
  have e16 : nI fr * (16 : Int32) = nI (fr * 16) := by rw [show (16 : Int32) = nI 16 from rfl, pk_mul]
  have hl0 : lens fr = filled 0 := by
    have := (g6 0 hr0).1
    rw [Nat.add_zero, Nat.mod_eq_of_lt hfr] at this
    exact this
  rw [e7, e71, er1, e16, efr, nI_clamp (by omega), show (0 : Int32).toNatClampNeg = 0 by decide, show (16 : Int32).toNatClampNeg = 16 by decide]
  have er2 : (nI (r - 1)).toNatClampNeg = r - 1 := nI_clamp (by omega)
  have efr2 : (nI ((fr + 1) % 8)).toNatClampNeg = (fr + 1) % 8 := nI_clamp (by omega)
  have f9 : ∀ j, j < 9 → shf filled 0 9 1 j = filled (j + 1) := by
    intro j hj
    unfold shf
    rw [if_pos (by omega)]
  have c144 : ∀ j, j < 144 → shf card 0 144 16 j = card (j + 16) := by
    intro j hj
    unfold shf
    rw [if_pos (by omega)]
  obtain ⟨f0, hf0, ef0⟩ := rg_nI (n := 17) (g5 0 (by omega)) (by omega)
  refine ⟨⟨rfl, nI_rg (by omega) (by omega), nI_rg (by omega) (by omega), ?_, ?_, ?_, ?_, hl0, rfl, by decide, ?_, ?_, ?_, g14, g15⟩, hl0⟩
  · rw [er2, f9 _ (by omega), show r - 1 + 1 = r by omega]
    exact g4
  · rw [er2]
    intro j hj
    rw [f9 j (by omega)]
    exact g5 (j + 1) (by omega)
  · rw [er2, efr2]
    intro j hj
    obtain ⟨a1, a2⟩ := g6 (j + 1) (by omega)
    rw [f9 j (by omega), show ((fr + 1) % 8 + j) % 8 = (fr + (j + 1)) % 8 by omega]
    refine ⟨a1, fun t ht => ?_⟩
    obtain ⟨f1, hf1, ef1⟩ := rg_nI (n := 17) (g5 (j + 1) (by omega)) (by omega)
    have ht2 := ht
    rw [ef1, nI_clamp (by omega)] at ht2
    rw [c144 _ (by omega), a2 t ht, show 16 * (j + 1) + t = 16 * j + t + 16 by omega]
  · rw [er2]
    intro t ht
    obtain ⟨f1, hf1, ef1⟩ := rg_nI (n := 17) (g5 r (Nat.le_refl r)) (by omega)
    have ht2 := ht
    rw [g4, ef1, nI_clamp (by omega)] at ht2
    rw [c144 _ (by omega), g7 t ht, show 16 * (r - 1) + t + 16 = 16 * r + t by omega]
  · rw [ef0, nI_toInt (by omega), q_0]
    omega
  · rw [ef0, nI_toInt (by omega)]
    omega
  · intro t ht
    obtain ⟨a1, a2⟩ := g6 0 hr0
    have ht2 := ht
    rw [ef0, nI_clamp (by omega)] at ht2
    rw [pk_cpy_in (by omega) (by omega), Nat.sub_zero]
    unfold cpy16
    rw [if_pos (by omega)]
    have := a2 t ht
    rw [Nat.add_zero, Nat.mod_eq_of_lt hfr, Nat.mul_zero, Nat.zero_add] at this
    exact this
