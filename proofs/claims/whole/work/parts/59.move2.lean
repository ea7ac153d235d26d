/-! one byte moved: both sides -/
theorem holds1 {p : Int32} (h : rg p 16777216) : f_X6_holds p 1 = true ↔ p < (2048 : Int32) := by
  obtain ⟨h0, h1⟩ := h
  have e : ((2048 : Int32) - 1).toInt = 2047 := by decide
  have c1 : ¬ p < 0 := by rw [q_lt, q_0]; omega
  unfold f_X6_holds
  rw [if_neg c1]
  by_cases c : (2048 : Int32) - 1 < p
  · rw [if_pos c]
    rw [q_lt, e] at c
    rw [q_lt, q_2048]
    exact ⟨fun q => (by cases q), fun q => absurd q (by omega)⟩
  · rw [if_neg c]
    rw [q_lt, e] at c
    rw [q_lt, q_2048]
    exact ⟨fun _ => (by omega), fun _ => rfl⟩
theorem uB_255 (B : rw_) (k : Nat) : uB B k &&& 255 = uB B k := by
  unfold uB
  apply b_ext
  intro i hi
  rw [b_and, b_and, b_255]
  cases bt (B k) i <;> simp
theorem mv2_rel {N : Nat} {line line' rc tk K : rw_} {a1 a2 a3 a4 : Int32} {e wt : Bool} {s l f t : Int32} {jmp : Bool} {okey chn cmd plc flg cnt rdy tsz rd lns onl : Int32} {dch : Bool} {un ck made front wait : Int32} (B : rw_) (hN : N ≤ 4000) (hk : rg okey 16) (hp : rg chn 16777216) (ha : rg plc 16777216) (hf : rg flg 256) (hc : 1 ≤ cnt.toInt) (hc2 : cnt.toInt < 65536) (hrd : rd.toInt ≤ tsz.toInt) (hcmd : ¬ cmd = 0) (h6 : 0 ≤ onl.toInt) (h7 : onl.toInt ≤ N) (h8 : line' = uB line) (h : plc < (2048 : Int32)) :
    ∃ (C' : tCh) (line1 line1' : rw_) (wt' wk' chd' : Bool) (cmd' : Int32), f_X0_moveByte (true, wt, 2, okey, chn, true, dch, jmp, plc, flg, cnt, un, ck) (lns, onl) line (made, front, wait, tsz, rd) rc B K = (C', (lns, onl + (1 : Int32)), line1, (made, front, wait, tsz, rd), B) ∧ f_X8_move (a1, a2, a3, a4, e, wt, s, l, f, t, true, false, jmp, 2, okey, chn, cmd, plc, flg, cnt, rdy, tsz, rd, lns, onl) (uB B) K line' tk = ((a1, a2, a3, a4, e, wt', s, l, f, t, wk', chd', jmp, 2, okey, chn, cmd', plc + (1 : Int32), flg, cnt - (1 : Int32), rdy, tsz, rd, lns, onl + (1 : Int32)), uB (rep C' B), line1') ∧ R_mv (N + 1) C' (lns, onl + (1 : Int32)) line1 (a1, a2, a3, a4, e, wt', s, l, f, t, wk', chd', jmp, 2, okey, chn, cmd', plc + (1 : Int32), flg, cnt - (1 : Int32), rdy, tsz, rd, lns, onl + (1 : Int32)) line1' := by
  obtain ⟨p0, p1⟩ := ha
  have hpl : plc.toInt < 2048 := by rw [q_lt, q_2048] at h; exact h
  obtain ⟨pn, hpn, ep⟩ := nI_of (x := plc) (by rw [q_lt, q_0]; omega)
  have e1 : (plc + (1 : Int32)).toInt = plc.toInt + 1 := by rw [q_addI (by rw [q_1]; omega) (by rw [q_1]; omega), q_1]
  have e2 : (cnt - (1 : Int32)).toInt = cnt.toInt - 1 := by rw [q_subI (by rw [q_1]; omega) (by rw [q_1]; omega), q_1]
  have e3 : (onl + (1 : Int32)).toInt = onl.toInt + 1 := by rw [q_addI (by rw [q_1]; omega) (by rw [q_1]; omega), q_1]
  have hb : f_X6_byteAt B plc = uB B plc.toNatClampNeg := by
    rw [ep, nI_clamp hpn]
    rw [ep, nI_toInt hpn] at hpl
    exact byteAt_in B pn (by omega)
  have c0 : ¬ onl < 0 := by rw [q_lt, q_0]; omega
  have hpr : ∃ line1, f_X2_print (lns, onl) line (f_X6_byteAt B plc) = ((lns, onl + (1 : Int32)), line1) ∧ (if (32 : Int32) ≤ onl then line' else upd line' onl.toNatClampNeg (uB B plc.toNatClampNeg)) = uB line1 := by
    unfold f_X2_print
    dsimp only
    rw [if_neg c0, hb]
    by_cases c : (32 : Int32) ≤ onl
    · rw [if_pos c, if_pos c]
      exact ⟨line, rfl, h8⟩
    · rw [if_neg c, if_neg c]
      exact ⟨_, rfl, by rw [uB_put, uB_255, h8]⟩
  obtain ⟨line1, hl1, hl2⟩ := hpr
  obtain ⟨C', wt', wk', chd', cmd', x1, x2, x3⟩ := tail_rel (N := N + 1) (line := line1) (line' := if (32 : Int32) ≤ onl then line' else upd line' onl.toNatClampNeg (uB B plc.toNatClampNeg)) (a1 := a1) (a2 := a2) (a3 := a3) (a4 := a4) (e := e) (wt := wt) (s := s) (l := l) (f := f) (t := t) (jmp := jmp) (dev := 2) (okey := okey) (chn := chn) (cmd := cmd) (plc := plc + (1 : Int32)) (flg := flg) (cnt := cnt - (1 : Int32)) (rdy := rdy) (tsz := tsz) (rd := rd) (lns := lns) (onl := onl + (1 : Int32)) (dch := dch) (un := un) (ck := ck) (made := made) (front := front) (wait := wait) B (Or.inr rfl) hk hp ⟨by omega, by omega⟩ hf (by omega) (by omega) hrd hcmd (by omega) (by omega) hl2
  refine ⟨C', line1, _, wt', wk', chd', cmd', ?_, ?_, x3⟩
  · rw [mv_print true wt okey chn true dch jmp plc flg cnt un ck made front wait tsz rd (lns, onl) line rc B K ((holds1 ⟨p0, p1⟩).mpr h), x1, hl1]
  · rw [mm_print a1 a2 a3 a4 e wt s l f t true false jmp 2 okey chn cmd plc flg cnt rdy tsz rd lns onl (uB B) K line' tk h (by decide)]
    exact x2
