/-! a command taken: the reference's side, case by case -/
theorem mt_place (a1 a2 a3 a4 : Int32) (e wt : Bool) (s l f t : Int32) (wk chd jmp : Bool) (dev okey chn cmd plc flg cnt rdy tsz rd lns onl : Int32) (b card filled tk : rw_) (h : 0 < chn - chn / (8 : Int32) * (8 : Int32) ∨ ¬ chn ≤ (2040 : Int32)) : f_X8_take (a1, a2, a3, a4, e, wt, s, l, f, t, wk, chd, jmp, dev, okey, chn, cmd, plc, flg, cnt, rdy, tsz, rd, lns, onl) b card filled tk = ((f_X8_end (a1, a2, a3, a4, e, wt, s, l, f, t, wk, chd, jmp, dev, okey, ((chn + (8 : Int32)) - (chn + (8 : Int32)) / (16777216 : Int32) * (16777216 : Int32)), cmd, plc, flg, 0, rdy, tsz, rd, lns, onl) b 0 32).1, (f_X8_end (a1, a2, a3, a4, e, wt, s, l, f, t, wk, chd, jmp, dev, okey, ((chn + (8 : Int32)) - (chn + (8 : Int32)) / (16777216 : Int32) * (16777216 : Int32)), cmd, plc, flg, 0, rdy, tsz, rd, lns, onl) b 0 32).2, card, filled, tk) := by
  unfold f_X8_take q_let
  dsimp only
  by_cases h1 : 0 < chn - chn / (8 : Int32) * (8 : Int32)
  · rw [if_pos h1]
  · rw [if_neg h1, if_neg (h.resolve_left h1)]
theorem mt_jump (a1 a2 a3 a4 : Int32) (e wt : Bool) (s l f t : Int32) (wk chd jmp : Bool) (dev okey chn cmd plc flg cnt rdy tsz rd lns onl : Int32) (b card filled tk : rw_) (h1 : ¬ 0 < chn - chn / (8 : Int32) * (8 : Int32)) (h2 : chn ≤ (2040 : Int32)) (h3 : b chn.toNatClampNeg = 8) (h4 : ¬ jmp = true) : f_X8_take (a1, a2, a3, a4, e, wt, s, l, f, t, wk, chd, jmp, dev, okey, chn, cmd, plc, flg, cnt, rdy, tsz, rd, lns, onl) b card filled tk = ((a1, a2, a3, a4, e, wt, s, l, f, t, wk, chd, true, dev, okey, (f_X8_field b (chn + (1 : Int32)) 3), cmd, (f_X8_field b (chn + (1 : Int32)) 3), (b (chn + (4 : Int32)).toNatClampNeg), (f_X8_field b (chn + (6 : Int32)) 2), rdy, tsz, rd, lns, onl), b, card, filled, tk) := by
  unfold f_X8_take q_let
  dsimp only
  rw [if_neg h1, if_pos h2, if_pos h3, if_neg h4]
theorem mt_no (a1 a2 a3 a4 : Int32) (e wt : Bool) (s l f t : Int32) (wk chd jmp : Bool) (dev okey chn cmd plc flg cnt rdy tsz rd lns onl : Int32) (b card filled tk : rw_) (h1 : ¬ 0 < chn - chn / (8 : Int32) * (8 : Int32)) (h2 : chn ≤ (2040 : Int32)) (h3 : (b chn.toNatClampNeg = 8 ∧ jmp = true) ∨ (¬ b chn.toNatClampNeg = 8 ∧ ((¬ chd = true ∧ ¬ b chn.toNatClampNeg = (if dev = (1 : Int32) then (2 : Int32) else 1)) ∨ (f_X8_field b (chn + (6 : Int32)) 2) = 0))) : f_X8_take (a1, a2, a3, a4, e, wt, s, l, f, t, wk, chd, jmp, dev, okey, chn, cmd, plc, flg, cnt, rdy, tsz, rd, lns, onl) b card filled tk = ((f_X8_end (a1, a2, a3, a4, e, wt, s, l, f, t, wk, chd, jmp, dev, okey, ((chn + (8 : Int32)) - (chn + (8 : Int32)) / (16777216 : Int32) * (16777216 : Int32)), cmd, (f_X8_field b (chn + (1 : Int32)) 3), (b (chn + (4 : Int32)).toNatClampNeg), (f_X8_field b (chn + (6 : Int32)) 2), rdy, tsz, rd, lns, onl) b 0 32).1, (f_X8_end (a1, a2, a3, a4, e, wt, s, l, f, t, wk, chd, jmp, dev, okey, ((chn + (8 : Int32)) - (chn + (8 : Int32)) / (16777216 : Int32) * (16777216 : Int32)), cmd, (f_X8_field b (chn + (1 : Int32)) 3), (b (chn + (4 : Int32)).toNatClampNeg), (f_X8_field b (chn + (6 : Int32)) 2), rdy, tsz, rd, lns, onl) b 0 32).2, card, filled, tk) := by
  unfold f_X8_take q_let
  dsimp only
  rw [if_neg h1, if_pos h2]
  rcases h3 with ⟨c1, c2⟩ | ⟨c1, c2⟩
  · rw [if_pos c1, if_pos c2, if_pos c1]
  · rw [if_neg c1, if_neg c1]
    by_cases c3 : chd = true
    · have c4 := c2.resolve_left (fun q => q.1 c3)
      rw [if_pos c3, if_pos c4]
    · rw [if_neg c3]
      by_cases c5 : b chn.toNatClampNeg = (if dev = (1 : Int32) then (2 : Int32) else 1)
      · rw [if_pos c5, if_pos (c2.resolve_left (fun q => q.2 c5))]
      · rw [if_neg c5]
