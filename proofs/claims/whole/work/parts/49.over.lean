/-! a command that is over -/
theorem fl_32 : ∀ k, k < 256 → (((nI k / 32) - (nI k / 32) / 2 * 2 = 0) ↔ (nI k &&& 32 = 0)) := by decide +kernel
theorem fl_64 : ∀ k, k < 256 → (((nI k / 64) - (nI k / 64) / 2 * 2 = 0) ↔ (nI k &&& 64 = 0)) := by decide +kernel
theorem fl_16 : ∀ k, k < 256 → (((nI k / 16) - (nI k / 16) / 2 * 2 = 0) ↔ (nI k &&& 16 = 0)) := by decide +kernel
theorem fl_128 : ∀ k, k < 256 → ((128 ≤ nI k) ↔ ¬ (nI k &&& 128 = 0)) := by decide +kernel
def wrongLen (dev rd tsz cnt flg : Int32) : Prop := (dev = 1 ∧ (rd < tsz ∨ ¬ cnt = 0)) ∧ flg &&& 32 = 0
theorem fin_eq (works waits : Bool) (dev key place : Int32) (has dch jmp : Bool) (addr flg cnt un ck made front wait rlen tkn : Int32) :
    (wrongLen dev tkn rlen cnt flg → f_X0_finishCommand (works, waits, dev, key, place, has, dch, jmp, addr, flg, cnt, un, ck) (made, front, wait, rlen, tkn) = (false, true, dev, key, place, false, false, jmp, addr, flg, cnt, 12, 64)) ∧
    (¬ wrongLen dev tkn rlen cnt flg → flg &&& 64 = 0 → f_X0_finishCommand (works, waits, dev, key, place, has, dch, jmp, addr, flg, cnt, un, ck) (made, front, wait, rlen, tkn) = (false, true, dev, key, place, false, false, jmp, addr, flg, cnt, 12, 0)) ∧
    (¬ wrongLen dev tkn rlen cnt flg → ¬ flg &&& 64 = 0 → f_X0_finishCommand (works, waits, dev, key, place, has, dch, jmp, addr, flg, cnt, un, ck) (made, front, wait, rlen, tkn) = (works, waits, dev, key, place, false, false, jmp, addr, flg, cnt, un, ck)) := by
  unfold wrongLen
  by_cases h1 : dev = 1 <;> by_cases h2 : tkn < rlen <;> by_cases h3 : cnt = 0 <;> by_cases h4 : flg &&& 32 = 0 <;> by_cases h5 : flg &&& 64 = 0 <;>
    simp [f_X0_finishCommand, f_X0_isReading, f_X4_isAtEnd, f_X0_flagged, f_X0_end, q_let, h1, h2, h3, h4, h5]
theorem s_end_ok (o : tO) (b : rw_) (u c : Int32) : s_X8_end o b u c := by
  unfold s_X8_end q_let
  exact ⟨s_put_ok _ 65 _ 3 (by decide), s_put_ok _ 70 _ 2 (by decide)⟩
theorem end_eq (a1 a2 a3 a4 : Int32) (e wt : Bool) (s l f t : Int32) (wk chd jmp : Bool) (dev okey chn cmd plc flg cnt rdy tsz rd lns onl : Int32) (b : rw_) (u c : Int32) : f_X8_end (a1, a2, a3, a4, e, wt, s, l, f, t, wk, chd, jmp, dev, okey, chn, cmd, plc, flg, cnt, rdy, tsz, rd, lns, onl) b u c = ((a1, a2, a3, a4, e, true, s, l, f, t, false, chd, jmp, dev, okey, chn, cmd, plc, flg, cnt, rdy, tsz, rd, lns, onl), f_X8_put (upd (upd (f_X8_put (upd b 64 ((16 : Int32) * okey)) (nI 65) chn 3) 68 u) 69 c) (nI 70) cnt 2) := by
  unfold f_X8_end
  simp only [q_let, show (64 : Int32).toNatClampNeg = 64 by decide, show (68 : Int32).toNatClampNeg = 68 by decide, show (69 : Int32).toNatClampNeg = 69 by decide]
  rfl
theorem s_over_ok (o : tO) (b : rw_) : s_X8_over o b := by
  unfold s_X8_over q_let
  repeat' split
  all_goals first | exact s_end_ok _ _ _ _ | trivial
set_option maxHeartbeats 1000000 in
theorem over_eq (a1 a2 a3 a4 : Int32) (e wt : Bool) (s l f t : Int32) (wk chd jmp : Bool) (dev okey chn cmd plc flg cnt rdy tsz rd lns onl : Int32) (b : rw_) (hf : rg flg 256) (hc : 0 ≤ cnt.toInt) :
    (wrongLen dev rd tsz cnt flg → f_X8_over (a1, a2, a3, a4, e, wt, s, l, f, t, wk, chd, jmp, dev, okey, chn, cmd, plc, flg, cnt, rdy, tsz, rd, lns, onl) b = f_X8_end (a1, a2, a3, a4, e, wt, s, l, f, t, wk, chd, jmp, dev, okey, chn, 0, plc, flg, cnt, rdy, tsz, rd, lns, onl) b 12 64) ∧
    (¬ wrongLen dev rd tsz cnt flg → flg &&& 64 = 0 → f_X8_over (a1, a2, a3, a4, e, wt, s, l, f, t, wk, chd, jmp, dev, okey, chn, cmd, plc, flg, cnt, rdy, tsz, rd, lns, onl) b = f_X8_end (a1, a2, a3, a4, e, wt, s, l, f, t, wk, chd, jmp, dev, okey, chn, 0, plc, flg, cnt, rdy, tsz, rd, lns, onl) b 12 0) ∧
    (¬ wrongLen dev rd tsz cnt flg → ¬ flg &&& 64 = 0 → f_X8_over (a1, a2, a3, a4, e, wt, s, l, f, t, wk, chd, jmp, dev, okey, chn, cmd, plc, flg, cnt, rdy, tsz, rd, lns, onl) b = ((a1, a2, a3, a4, e, wt, s, l, f, t, wk, chd, jmp, dev, okey, chn, 0, plc, flg, cnt, rdy, tsz, rd, lns, onl), b)) := by
  obtain ⟨k, hk, rfl⟩ := rg_nI (n := 256) hf (by omega)
  have hz : cnt ≤ 0 ↔ cnt = 0 := by rw [q_le, q_eq, q_0]; omega
  unfold wrongLen f_X8_over
  simp only [q_let, fl_32 k hk, fl_64 k hk, hz]
  by_cases h1 : dev = 1 <;> by_cases h2 : rd < tsz <;> by_cases h3 : cnt = 0 <;> by_cases h4 : nI k &&& 32 = 0 <;> by_cases h5 : nI k &&& 64 = 0 <;>
    simp [h1, h2, h3, h4, h5]
