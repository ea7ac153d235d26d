/-! word -/
theorem q_2048 : (2048 : Int32).toInt = 2048 := by decide
theorem q_4 : (4 : Int32).toInt = 4 := by decide
theorem q_negI {x : Int32} (h : ¬ x.toInt = -2147483648) : (-x).toInt = -x.toInt := by
  rw [Int32.toInt_neg]
  have := q_rng x
  exact Int.bmod_eq_of_le (by omega) (by omega)
/-- a byte at a place that may lie outside, as the reference asks for it -/
theorem byteAt_far (B : rw_) (p x : Int32) (h0 : 0 ≤ x.toInt) (h4 : x.toInt < 4) : f_X6_byteAt B (p + x) = if p < (-x) then 0 else if (2048 : Int32) - x ≤ p then 0 else uB B (p + x).toNatClampNeg := by
  have hr := q_rng p
  have e1 : (-x).toInt = -x.toInt := q_negI (by omega)
  have e2 : ((2048 : Int32) - x).toInt = 2048 - x.toInt := by rw [q_subI (by rw [q_2048]; omega) (by rw [q_2048]; omega), q_2048]
  unfold f_X6_byteAt
  by_cases c1 : p < (-x)
  · rw [if_pos c1]
    rw [q_lt, e1] at c1
    have e3 : (p + x).toInt = p.toInt + x.toInt := q_addI (by omega) (by omega)
    rw [if_pos (by rw [q_lt, q_0, e3]; omega)]
  rw [if_neg c1]
  rw [q_lt, e1] at c1
  by_cases c2 : (2048 : Int32) - x ≤ p
  · rw [if_pos c2]
    rw [q_le, e2] at c2
    by_cases c3 : p.toInt + x.toInt < 2147483648
    · have e3 : (p + x).toInt = p.toInt + x.toInt := q_addI (by omega) (by omega)
      rw [if_neg (by rw [q_lt, q_0, e3]; omega), if_pos (by rw [q_le, q_2048, e3]; omega)]
    · have e3 : (p + x).toInt < 0 := by
        rw [Int32.toInt_add]
        have : (p.toInt + x.toInt).bmod (2 ^ 32) = p.toInt + x.toInt - 4294967296 := by
          rw [Int.bmod_def]
          omega
        omega
      rw [if_pos (by rw [q_lt, q_0]; exact e3)]
  · rw [if_neg c2]
    rw [q_le, e2] at c2
    have e3 : (p + x).toInt = p.toInt + x.toInt := q_addI (by omega) (by omega)
    rw [if_neg (by rw [q_lt, q_0, e3]; omega), if_neg (by rw [q_le, q_2048, e3]; omega)]
    rfl
theorem word_loop (B : rw_) (p : Int32) : ∀ (fuel : Nat) (x3 x2 : Int32), 0 ≤ x3.toInt → f_X6_wordAt_L4 B p fuel x3 x2 = f_X8_word_L4 (uB B) p fuel x3 x2 ∧ s_X8_word_L4 (uB B) p fuel x3 x2 := by
  intro fuel
  induction fuel with
  | zero => intro x3 x2 _; exact ⟨rfl, trivial⟩
  | succ fuel ih =>
    intro x3 x2 h0
    rw [f_X6_wordAt_L4, f_X8_word_L4, s_X8_word_L4]
    by_cases c : (4 : Int32) ≤ x3
    · rw [if_pos c, if_pos c, if_pos c]; exact ⟨rfl, trivial⟩
    rw [if_neg c, if_neg c, if_neg c]
    rw [q_le, q_4] at c
    have e1 : (x3 + 1).toInt = x3.toInt + 1 := by rw [q_addI (by rw [q_1]; omega) (by rw [q_1]; omega), q_1]
    have h1 : 0 ≤ (x3 + 1).toInt := by omega
    rw [byteAt_far B p x3 h0 (by omega)]
    by_cases c1 : p < (-x3)
    · rw [if_pos c1, if_pos c1, if_pos c1]; exact ih _ _ h1
    rw [if_neg c1, if_neg c1, if_neg c1]
    by_cases c2 : (2048 : Int32) - x3 ≤ p
    · rw [if_pos c2, if_pos c2, if_pos c2]; exact ih _ _ h1
    rw [if_neg c2, if_neg c2, if_neg c2]
    refine ⟨(ih _ _ h1).1, ?_, (ih _ _ h1).2⟩
    have hr := q_rng p
    have e4 : (-x3).toInt = -x3.toInt := q_negI (by omega)
    have e2 : ((2048 : Int32) - x3).toInt = 2048 - x3.toInt := by rw [q_subI (by rw [q_2048]; omega) (by rw [q_2048]; omega), q_2048]
    rw [q_lt, e4] at c1
    rw [q_le, e2] at c2
    have e3 : (p + x3).toInt = p.toInt + x3.toInt := q_addI (by omega) (by omega)
    exact vp_in_iff.mpr ⟨by omega, by omega⟩
theorem rl_word : Ok_word Rl := by
  intro i P C L line Rd lens mkg qu rc F Fd G Z Zd T B K o b card filled keys line' one reg tk two v1 hi h
  have hm := rl_mono i _ _ h
  obtain ⟨h1, h2, h3, h4, h5⟩ := h
  obtain ⟨rfl, rfl, rfl, -⟩ := h3
  have hw := word_loop B v1 (((4 : Int32).toInt - (0 : Int32).toInt).toNat + 1) 0 0 (by decide)
  exact ⟨hw.2, hw.1, hm⟩
