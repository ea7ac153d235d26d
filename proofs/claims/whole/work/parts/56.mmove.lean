/-! one byte moved: the reference's side, case by case -/
/-- what comes behind the byte -/
def mtail (o : tO) (b line : rw_) : tO × rw_ × rw_ := match o with
  | (a1, a2, a3, a4, e, wt, s, l, f, t, wk, chd, jmp, dev, okey, chn, cmd, plc, flg, cnt, rdy, tsz, rd, lns, onl) =>
    if (dev = 1 ∧ rd = tsz) ∨ (cnt = 0 ∧ ¬ (128 : Int32) ≤ flg) then ((f_X8_over (a1, a2, a3, a4, e, wt, s, l, f, t, wk, chd, jmp, dev, okey, chn, cmd, plc, flg, cnt, rdy, tsz, rd, lns, onl) b).1, (f_X8_over (a1, a2, a3, a4, e, wt, s, l, f, t, wk, chd, jmp, dev, okey, chn, cmd, plc, flg, cnt, rdy, tsz, rd, lns, onl) b).2, line)
    else if cnt = 0 then ((a1, a2, a3, a4, e, wt, s, l, f, t, wk, true, jmp, dev, okey, chn, 0, plc, flg, cnt, rdy, tsz, rd, lns, onl), b, line) else ((a1, a2, a3, a4, e, wt, s, l, f, t, wk, chd, jmp, dev, okey, chn, cmd, plc, flg, cnt, rdy, tsz, rd, lns, onl), b, line)
theorem mm_out (a1 a2 a3 a4 : Int32) (e wt : Bool) (s l f t : Int32) (wk chd jmp : Bool) (dev okey chn cmd plc flg cnt rdy tsz rd lns onl : Int32) (b K line tk : rw_) (h : ¬ plc < (2048 : Int32)) : f_X8_move (a1, a2, a3, a4, e, wt, s, l, f, t, wk, chd, jmp, dev, okey, chn, cmd, plc, flg, cnt, rdy, tsz, rd, lns, onl) b K line tk = ((f_X8_end (a1, a2, a3, a4, e, wt, s, l, f, t, wk, chd, jmp, dev, okey, chn, cmd, plc, flg, cnt, rdy, tsz, rd, lns, onl) b 0 32).1, (f_X8_end (a1, a2, a3, a4, e, wt, s, l, f, t, wk, chd, jmp, dev, okey, chn, cmd, plc, flg, cnt, rdy, tsz, rd, lns, onl) b 0 32).2, line) := by
  unfold f_X8_move q_let
  dsimp only
  rw [if_neg h]
set_option maxHeartbeats 2000000 in
theorem mm_skip (a1 a2 a3 a4 : Int32) (e wt : Bool) (s l f t : Int32) (wk chd jmp : Bool) (dev okey chn cmd plc flg cnt rdy tsz rd lns onl : Int32) (b K line tk : rw_) (h : plc < (2048 : Int32)) (h1 : dev = 1) (h2 : ¬ (flg / 16) - (flg / 16) / 2 * 2 = 0) : f_X8_move (a1, a2, a3, a4, e, wt, s, l, f, t, wk, chd, jmp, dev, okey, chn, cmd, plc, flg, cnt, rdy, tsz, rd, lns, onl) b K line tk = mtail (a1, a2, a3, a4, e, wt, s, l, f, t, wk, chd, jmp, dev, okey, chn, cmd, plc + (1 : Int32), flg, cnt - (1 : Int32), rdy, tsz, rd + (1 : Int32), lns, onl) b line := by
  unfold f_X8_move mtail q_let
  dsimp only
  rw [if_pos h, if_pos h1]
  simp only [if_true, if_neg h2, if_false, Bool.false_eq_true, reduceIte]
  by_cases c1 : rd + 1 = tsz <;> by_cases c2 : cnt - 1 = 0 <;> by_cases c3 : (128 : Int32) ≤ flg <;> simp only [c1, c2, c3, h1, if_true, if_false, true_and, false_and, and_true, and_false, or_true, true_or, or_false, false_or, not_true, not_false_eq_true, reduceIte, Bool.false_eq_true]
theorem mm_key (a1 a2 a3 a4 : Int32) (e wt : Bool) (s l f t : Int32) (wk chd jmp : Bool) (dev okey chn cmd plc flg cnt rdy tsz rd lns onl : Int32) (b K line tk : rw_) (h : plc < (2048 : Int32)) (h1 : dev = 1) (h2 : (flg / 16) - (flg / 16) / 2 * 2 = 0) (h3 : ¬ okey ≤ 0) (h4 : ¬ K (plc / (256 : Int32)).toNatClampNeg = okey) : f_X8_move (a1, a2, a3, a4, e, wt, s, l, f, t, wk, chd, jmp, dev, okey, chn, cmd, plc, flg, cnt, rdy, tsz, rd, lns, onl) b K line tk = ((f_X8_end (a1, a2, a3, a4, e, wt, s, l, f, t, wk, chd, jmp, dev, okey, chn, cmd, plc, flg, cnt, rdy, tsz, rd, lns, onl) b 0 16).1, (f_X8_end (a1, a2, a3, a4, e, wt, s, l, f, t, wk, chd, jmp, dev, okey, chn, cmd, plc, flg, cnt, rdy, tsz, rd, lns, onl) b 0 16).2, line) := by
  unfold f_X8_move q_let
  dsimp only
  rw [if_pos h, if_pos h1]
  simp only [if_true, if_pos h2, if_neg h3, if_neg h4, reduceIte]
set_option maxHeartbeats 2000000 in
theorem mm_keep (a1 a2 a3 a4 : Int32) (e wt : Bool) (s l f t : Int32) (wk chd jmp : Bool) (dev okey chn cmd plc flg cnt rdy tsz rd lns onl : Int32) (b K line tk : rw_) (h : plc < (2048 : Int32)) (h1 : dev = 1) (h2 : (flg / 16) - (flg / 16) / 2 * 2 = 0) (h3 : okey ≤ 0 ∨ K (plc / (256 : Int32)).toNatClampNeg = okey) : f_X8_move (a1, a2, a3, a4, e, wt, s, l, f, t, wk, chd, jmp, dev, okey, chn, cmd, plc, flg, cnt, rdy, tsz, rd, lns, onl) b K line tk = mtail (a1, a2, a3, a4, e, wt, s, l, f, t, wk, chd, jmp, dev, okey, chn, cmd, plc + (1 : Int32), flg, cnt - (1 : Int32), rdy, tsz, rd + (1 : Int32), lns, onl) (upd b plc.toNatClampNeg (tk rd.toNatClampNeg)) line := by
  unfold f_X8_move mtail q_let
  dsimp only
  rw [if_pos h, if_pos h1]
  have h5 : ∀ (x y : tO × rw_ × rw_), (if okey ≤ 0 then x else if K (plc / (256 : Int32)).toNatClampNeg = okey then x else y) = x := by
    intro x y
    rcases h3 with q | q
    · rw [if_pos q]
    · rw [if_pos q, ite_self]
  simp only [if_true, if_pos h2, h5, reduceIte]
  by_cases c1 : rd + 1 = tsz <;> by_cases c2 : cnt - 1 = 0 <;> by_cases c3 : (128 : Int32) ≤ flg <;> simp only [c1, c2, c3, h1, if_true, if_false, true_and, false_and, and_true, and_false, or_true, true_or, or_false, false_or, not_true, not_false_eq_true, reduceIte, Bool.false_eq_true]
set_option maxHeartbeats 2000000 in
theorem mm_print (a1 a2 a3 a4 : Int32) (e wt : Bool) (s l f t : Int32) (wk chd jmp : Bool) (dev okey chn cmd plc flg cnt rdy tsz rd lns onl : Int32) (b K line tk : rw_) (h : plc < (2048 : Int32)) (h1 : ¬ dev = 1) : f_X8_move (a1, a2, a3, a4, e, wt, s, l, f, t, wk, chd, jmp, dev, okey, chn, cmd, plc, flg, cnt, rdy, tsz, rd, lns, onl) b K line tk = mtail (a1, a2, a3, a4, e, wt, s, l, f, t, wk, chd, jmp, dev, okey, chn, cmd, plc + (1 : Int32), flg, cnt - (1 : Int32), rdy, tsz, rd, lns, onl + (1 : Int32)) b (if (32 : Int32) ≤ onl then line else upd line onl.toNatClampNeg (b plc.toNatClampNeg)) := by
  unfold f_X8_move mtail q_let
  dsimp only
  rw [if_pos h, if_neg h1]
  simp only [if_false, Bool.false_eq_true, reduceIte]
  by_cases c1 : (32 : Int32) ≤ onl <;> by_cases c2 : cnt - 1 = 0 <;> by_cases c3 : (128 : Int32) ≤ flg <;> simp only [c1, c2, c3, h1, if_true, if_false, true_and, false_and, and_true, and_false, or_true, true_or, or_false, false_or, not_true, not_false_eq_true, reduceIte, Bool.false_eq_true]
