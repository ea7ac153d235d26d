/-! get and set -/
theorem rg_and {x m : Int32} (k : Nat) (n : Int) (hm : m.toBitVec.toNat = 2 ^ k - 1) (hk : k ≤ 30) (hn : (2 ^ k : Nat) = n) : rg (x &&& m) n := by
  obtain ⟨j, hj, e⟩ := pk_andE x (m := m) k hm
  have h31 : j < 2 ^ 31 := Nat.lt_of_lt_of_le hj (Nat.pow_le_pow_right (by decide) (by omega))
  rw [e]
  refine ⟨by rw [nI_toInt h31]; omega, by rw [nI_toInt h31]; omega⟩
/-- a small number is what its lowest bits are -/
theorem and_small {x m : Int32} (k : Nat) (hm : m.toBitVec.toNat = 2 ^ k - 1) (hk : k ≤ 30) (h : rg x (2 ^ k : Nat)) : x &&& m = x := by
  obtain ⟨h0, h1⟩ := h
  obtain ⟨j, hj, e⟩ := nI_of (x := x) (by rw [q_lt, q_0]; omega)
  subst e
  rw [nI_toInt hj] at h1
  rw [pk_andN (by omega) k hm, Nat.mod_eq_of_lt (by omega)]
theorem q_16 : (16 : Int32).toInt = 16 := by decide
theorem q_17 : (17 : Int32).toInt = 17 := by decide
theorem q_18 : (18 : Int32).toInt = 18 := by decide
theorem q_19 : (19 : Int32).toInt = 19 := by decide
theorem q_20 : (20 : Int32).toInt = 20 := by decide
theorem q_27 : (27 : Int32).toInt = 27 := by decide
theorem q_28 : (28 : Int32).toInt = 28 := by decide
theorem rl_get : Ok_get Rl := by
  rintro i P C L line Rd lens mkg qu rc F Fd G Z Zd ⟨mask, key, cc, addr⟩ B K ⟨mask', key', cc', addr', o⟩ b card filled keys line' one reg tk two v1 hi h
  have hm := rl_mono i _ _ h
  obtain ⟨h1, h2, h3, h4, h5⟩ := h
  obtain ⟨rfl, rfl, rfl, rfl, -⟩ := h1
  obtain ⟨rfl, rfl, rfl, -⟩ := h3
  refine ⟨?_, ?_, hm⟩
  · unfold s_X8_get
    by_cases c1 : v1 < 0
    · rw [if_pos c1]; trivial
    rw [if_neg c1]
    by_cases c2 : v1 ≤ 27
    · rw [if_pos c2]
      by_cases c3 : (16 : Int32) ≤ v1
      · rw [if_pos c3]
        by_cases c4 : v1 ≤ 19
        · rw [if_pos c4]; trivial
        · rw [if_neg c4]
          rw [q_le, q_27] at c2
          rw [q_le, q_19] at c4
          refine vp_in_iff.mpr ?_
          rw [q_subI (by rw [q_20]; omega) (by rw [q_20]; omega), q_20]
          omega
      · rw [if_neg c3]; trivial
    · rw [if_neg c2]; trivial
  · unfold f_X7_get f_X8_get
    by_cases c1 : v1 < 0
    · rw [if_pos c1, if_pos c1]
    rw [if_neg c1, if_neg c1]
    rw [q_lt, q_0] at c1
    by_cases c2 : v1 ≤ 27
    · have c2' : v1 < 28 := by rw [q_lt, q_28]; rw [q_le, q_27] at c2; omega
      rw [if_pos c2, if_pos c2']
      rw [q_le, q_27] at c2
      by_cases c3 : (16 : Int32) ≤ v1
      · rw [if_pos c3, if_pos c3]
        rw [q_le, q_16] at c3
        by_cases c4 : v1 ≤ 19
        · have c4' : v1 < 20 := by rw [q_lt, q_20]; rw [q_le, q_19] at c4; omega
          rw [if_pos c4, if_pos c4']
          rw [q_le, q_19] at c4
          unfold f_X5_part
          by_cases d1 : v1 = 16
          · rw [if_pos d1, if_pos d1]
          rw [if_neg d1, if_neg d1]
          by_cases d2 : v1 = 17
          · rw [if_pos d2, if_pos d2]
          rw [if_neg d2, if_neg d2]
          by_cases d3 : v1 = 18
          · rw [if_pos d3, if_pos d3]
          rw [if_neg d3, if_neg d3]
          have d4 : v1 = 19 := by
            rw [q_eq, q_16] at d1
            rw [q_eq, q_17] at d2
            rw [q_eq, q_18] at d3
            rw [q_eq, q_19]
            omega
          rw [if_pos d4]
        · have c4' : ¬ v1 < 20 := by rw [q_lt, q_20]; rw [q_le, q_19] at c4; omega
          rw [if_neg c4, if_neg c4']
          rw [q_le, q_19] at c4
          unfold f_X6_keyOfBlock
          rw [and_small 3 (by decide) (by decide) ⟨by rw [q_subI (by rw [q_20]; omega) (by rw [q_20]; omega), q_20]; omega, by rw [q_subI (by rw [q_20]; omega) (by rw [q_20]; omega), q_20]; omega⟩]
      · rw [if_neg c3, if_neg c3]
        rw [q_le, q_16] at c3
        unfold f_X3_register
        rw [and_small 4 (by decide) (by decide) ⟨by omega, by omega⟩]
    · have c2' : ¬ v1 < 28 := by rw [q_lt, q_28]; rw [q_le, q_27] at c2; omega
      rw [if_neg c2, if_neg c2']
theorem rl_set : Ok_set Rl := by
  rintro i P C L line Rd lens mkg qu rc F Fd G Z Zd ⟨mask, key, cc, addr⟩ B K ⟨mask', key', cc', addr', o⟩ b card filled keys line' one reg tk two v1 v2 hi h
  have hm := rl_mono i _ _ h
  obtain ⟨h1, h2, h3, h4, h5⟩ := hm
  obtain ⟨rfl, rfl, rfl, rfl, g1, g2, g3, g4⟩ := h1
  obtain ⟨rfl, rfl, rfl, gk⟩ := h3
  have a31 : rg (v2 &&& 31) 32 := rg_and 5 32 (by decide) (by decide) (by decide)
  have a15 : rg (v2 &&& 15) 16 := rg_and 4 16 (by decide) (by decide) (by decide)
  have a3 : rg (v2 &&& 3) 4 := rg_and 2 4 (by decide) (by decide) (by decide)
  have a16 : rg (v2 &&& 65535) 65536 := rg_and 16 65536 (by decide) (by decide) (by decide)
  refine ⟨?_, ?_⟩
  · unfold s_X8_set
    by_cases c1 : v1 < 0
    · rw [if_pos c1]; trivial
    rw [if_neg c1]
    by_cases c2 : v1 ≤ 27
    · rw [if_pos c2]
      by_cases c3 : (16 : Int32) ≤ v1
      · rw [if_pos c3]
        by_cases c4 : v1 ≤ 19
        · rw [if_pos c4]; trivial
        · rw [if_neg c4]
          rw [q_le, q_27] at c2
          rw [q_le, q_19] at c4
          refine vp_in_iff.mpr ?_
          rw [q_subI (by rw [q_20]; omega) (by rw [q_20]; omega), q_20]
          omega
      · rw [if_neg c3]; trivial
    · rw [if_neg c2]; trivial
  · unfold f_X7_set f_X8_set q_let
    by_cases c1 : v1 < 0
    · rw [if_pos c1, if_pos c1]
      exact ⟨rfl, ⟨rfl, rfl, rfl, rfl, g1, g2, g3, g4⟩, h2, ⟨rfl, rfl, rfl, gk⟩, h4, h5⟩
    rw [if_neg c1, if_neg c1]
    rw [q_lt, q_0] at c1
    by_cases c2 : v1 ≤ 27
    · have c2' : v1 < 28 := by rw [q_lt, q_28]; rw [q_le, q_27] at c2; omega
      rw [if_pos c2, if_pos c2']
      rw [q_le, q_27] at c2
      by_cases c3 : (16 : Int32) ≤ v1
      · rw [if_pos c3, if_pos c3]
        rw [q_le, q_16] at c3
        by_cases c4 : v1 ≤ 19
        · have c4' : v1 < 20 := by rw [q_lt, q_20]; rw [q_le, q_19] at c4; omega
          rw [if_pos c4, if_pos c4']
          rw [q_le, q_19] at c4
          unfold f_X5_putPart
          have hc : v1 = 16 ∨ v1 = 17 ∨ v1 = 18 ∨ v1 = 19 := by
            rw [q_eq, q_eq, q_eq, q_eq, q_16, q_17, q_18, q_19]
            omega
          rcases hc with rfl | rfl | rfl | rfl
          · exact ⟨rfl, ⟨rfl, rfl, rfl, rfl, g1, g2, g3, a16⟩, h2, ⟨rfl, rfl, rfl, gk⟩, h4, h5⟩
          · exact ⟨rfl, ⟨rfl, rfl, rfl, rfl, g1, a15, g3, g4⟩, h2, ⟨rfl, rfl, rfl, gk⟩, h4, h5⟩
          · exact ⟨rfl, ⟨rfl, rfl, rfl, rfl, a31, g2, g3, g4⟩, h2, ⟨rfl, rfl, rfl, gk⟩, h4, h5⟩
          · exact ⟨rfl, ⟨rfl, rfl, rfl, rfl, g1, g2, a3, g4⟩, h2, ⟨rfl, rfl, rfl, gk⟩, h4, h5⟩
        · have c4' : ¬ v1 < 20 := by rw [q_lt, q_20]; rw [q_le, q_19] at c4; omega
          rw [if_neg c4, if_neg c4']
          rw [q_le, q_19] at c4
          unfold f_X6_putKey
          rw [and_small 3 (by decide) (by decide) ⟨by rw [q_subI (by rw [q_20]; omega) (by rw [q_20]; omega), q_20]; omega, by rw [q_subI (by rw [q_20]; omega) (by rw [q_20]; omega), q_20]; omega⟩]
          refine ⟨rfl, ⟨rfl, rfl, rfl, rfl, g1, g2, g3, g4⟩, h2, ⟨rfl, rfl, rfl, fun j => ?_⟩, h4, h5⟩
          show rg (upd K (v1 - 20).toNatClampNeg (v2 &&& 15) j) 16
          unfold upd
          split
          · exact a15
          · exact gk j
      · rw [if_neg c3, if_neg c3]
        rw [q_le, q_16] at c3
        unfold f_X3_putRegister
        rw [and_small 4 (by decide) (by decide) ⟨by omega, by omega⟩]
        exact ⟨rfl, ⟨rfl, rfl, rfl, rfl, g1, g2, g3, g4⟩, h2, ⟨rfl, rfl, rfl, gk⟩, h4, h5⟩
    · have c2' : ¬ v1 < 28 := by rw [q_lt, q_28]; rw [q_le, q_27] at c2; omega
      rw [if_neg c2, if_neg c2']
      exact ⟨rfl, ⟨rfl, rfl, rfl, rfl, g1, g2, g3, g4⟩, h2, ⟨rfl, rfl, rfl, gk⟩, h4, h5⟩
