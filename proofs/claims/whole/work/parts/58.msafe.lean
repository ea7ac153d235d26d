/-! one byte moved: the reference's indices -/
theorem div256 {x : Int32} (h0 : 0 ≤ x.toInt) (h1 : x.toInt < 2048) : vp_in (x / (256 : Int32)) 8 := by
  obtain ⟨j, hj, rfl⟩ := nI_of (x := x) (by rw [q_lt, q_0]; omega)
  rw [nI_toInt hj] at h1
  rw [show (256 : Int32) = nI 256 from rfl, pk_div hj (by omega) (by omega)]
  exact vp_in_nI (by omega) (by omega)
set_option maxHeartbeats 2000000 in
theorem s_move_ok (a1 a2 a3 a4 : Int32) (e wt : Bool) (s l f t : Int32) (wk chd jmp : Bool) (dev okey chn cmd plc flg cnt rdy tsz rd lns onl : Int32) (b K tk : rw_) (hp : 0 ≤ plc.toInt) (hrd : dev = 1 → vp_in rd 16) (ho : 0 ≤ onl.toInt) : s_X8_move (a1, a2, a3, a4, e, wt, s, l, f, t, wk, chd, jmp, dev, okey, chn, cmd, plc, flg, cnt, rdy, tsz, rd, lns, onl) b K tk := by
  unfold s_X8_move q_let
  dsimp only
  have hpl : plc < (2048 : Int32) → vp_in plc 2048 := by
    intro h
    rw [q_lt, q_2048] at h
    exact vp_in_iff.mpr ⟨hp, h⟩
  have hdv : plc < (2048 : Int32) → vp_in (plc / (256 : Int32)) 8 := by
    intro h
    rw [q_lt, q_2048] at h
    exact div256 hp h
  have hon : ¬ (32 : Int32) ≤ onl → vp_in onl 32 := by
    intro h
    rw [q_le, q_32] at h
    exact vp_in_iff.mpr ⟨ho, by omega⟩
  by_cases c0 : plc < (2048 : Int32)
  · rw [if_pos c0]
    have e1 := hpl c0
    have e2 := hdv c0
    by_cases h1 : dev = 1 <;> by_cases h2 : (flg / 16) - (flg / 16) / 2 * 2 = 0 <;> by_cases h3 : okey ≤ 0 <;> by_cases h4 : K (plc / (256 : Int32)).toNatClampNeg = okey <;> by_cases h5 : (32 : Int32) ≤ onl <;> by_cases h6 : cnt - 1 = 0 <;> by_cases h7 : (128 : Int32) ≤ flg <;>
      simp [h1, h2, h3, h4, h5, h6, h7, e1, e2, hrd, hon, s_over_ok, s_end_ok]
  · rw [if_neg c0]
    exact s_end_ok _ _ _ _
