/-! one move without a command under way: both sides -/
theorem open_line (a1 a2 a3 a4 : Int32) (e wt : Bool) (s l f t : Int32) (wk chd jmp : Bool) (okey chn cmd plc flg cnt rdy tsz rd lns onl : Int32) (b card filled tk : rw_) : f_X8_open (a1, a2, a3, a4, e, wt, s, l, f, t, wk, chd, jmp, 2, okey, chn, cmd, plc, flg, cnt, rdy, tsz, rd, lns, onl) b card filled tk = ((a1, a2, a3, a4, e, wt, s, l, f, t, wk, chd, jmp, 2, okey, chn, cmd, plc, flg, cnt, rdy, tsz, rd, lns + (1 : Int32), 0), b, card, filled, tk) := by
  unfold f_X8_open q_let
  rw [if_pos rfl]
theorem open_none (a1 a2 a3 a4 : Int32) (e wt : Bool) (s l f t : Int32) (wk chd jmp : Bool) (okey chn cmd plc flg cnt rdy tsz rd lns onl : Int32) (b card filled tk : rw_) (h : rdy = 0) : f_X8_open (a1, a2, a3, a4, e, wt, s, l, f, t, wk, chd, jmp, 1, okey, chn, cmd, plc, flg, cnt, rdy, tsz, rd, lns, onl) b card filled tk = ((f_X8_end (a1, a2, a3, a4, e, wt, s, l, f, t, wk, chd, jmp, 1, okey, chn, cmd, plc, flg, cnt, rdy, tsz, rd, lns, onl) b 13 0).1, (f_X8_end (a1, a2, a3, a4, e, wt, s, l, f, t, wk, chd, jmp, 1, okey, chn, cmd, plc, flg, cnt, rdy, tsz, rd, lns, onl) b 13 0).2, card, filled, tk) := by
  unfold f_X8_open q_let
  rw [if_neg (show ¬ (1 : Int32) = 2 by decide), if_pos h]
theorem open_rec (a1 a2 a3 a4 : Int32) (e wt : Bool) (s l f t : Int32) (wk chd jmp : Bool) (okey chn cmd plc flg cnt rdy tsz rd lns onl : Int32) (b card filled tk : rw_) (h : ¬ rdy = 0) : f_X8_open (a1, a2, a3, a4, e, wt, s, l, f, t, wk, chd, jmp, 1, okey, chn, cmd, plc, flg, cnt, rdy, tsz, rd, lns, onl) b card filled tk = opD b (a1, a2, a3, a4, e, wt, s, l, f, t, wk, chd, jmp, 1, okey, chn, cmd, plc, flg, cnt, rdy, filled 0, rd, lns, onl) (cpy16 tk card 0) (shf card 0 144 16) (shf filled 0 9 1) := by
  unfold f_X8_open q_let
  rw [if_neg (show ¬ (1 : Int32) = 2 by decide), if_neg h]
  exact (op51 b card filled _ 16 0 tk _ rfl (by decide)).1
set_option maxHeartbeats 2000000 in
theorem take_rel {N : Nat} {P : tP} {T : tT} {C : tCh} {L : Int32 × Int32} {line : rw_} {Rd : tRd} {lens mkg qu rc B : rw_} {o : tO} {b card filled tk line' : rw_} (K : rw_) (h : Mv N P T C L line Rd lens mkg qu rc B o b card filled tk line') (hw : C.1 = true) (hh : C.2.2.2.2.2.1 = false) :
    ∃ (C' : tCh) (L' : Int32 × Int32) (Rd' : tRd) (rc' B' : rw_) (o' : tO) (b' card' filled' tk' : rw_), f_X0_makeMove C L line Rd lens qu rc B K = (C', L', line, Rd', rc', B') ∧ f_X8_take o b card filled tk = (o', b', card', filled', tk') ∧ s_X8_take o b card filled tk ∧ Mv N P T C' L' line Rd' lens mkg qu rc' B' o' b' card' filled' tk' line' := by
  obtain ⟨works, waits, dev, key, place, has, dch, cj, addr, flg2, cnt2, un, ck⟩ := C
  obtain ⟨lns2, len⟩ := L
  obtain ⟨made, front, wait, rlen, tkn⟩ := Rd
  obtain ⟨a1, a2, a3, a4, e, wt, s, l, f, t, wk, chd, jmp, dev', okey, chn, cmd, plc, flg, cnt, rdy, tsz, rd, lns, onl⟩ := o
  obtain ⟨hst, hpr, rfl, hmv, hrd⟩ := h
  obtain ⟨m1, m2, m3, m4, m5, m6, m7, m8, m9⟩ := hmv
  have hq := R_rd_to hrd
  obtain ⟨g1, g2, g3, g4, g5, g6, g7, g8, g9, g10, g11, g12, g13, g14, g15⟩ := id hq
  dsimp only at hw hh
  subst hw hh
  have hk : Q_wk dev key place false dch cj addr flg2 cnt2 chd jmp okey chn cmd plc flg cnt tsz rd := m9 rfl
  obtain ⟨k1, k2, k3, k4, k5, k6, k7, k8, k9⟩ := hk
  have hcmd : cmd = 0 := Classical.byContradiction fun q => (by cases k7.mpr q)
  obtain ⟨k10, k11⟩ := k8 rfl
  subst m1 m2 m3 m4 m5 k2 k4 k6 k10 g1 g8 g9 hcmd
  have hsm : s_X8_take (a1, a2, a3, a4, e, waits, s, l, f, t, true, dch, cj, dev, key, place, 0, plc, flg, cnt, wait, rlen, tkn, lns2, len) (uB B) card filled tk := s_take_ok a1 a2 a3 a4 e waits s l f t true dch cj dev key place 0 plc flg cnt wait rlen tkn lns2 len (uB B) card filled tk k5
  obtain ⟨n1, n2⟩ := next8 k5
  have hend := fun (addr2 cflg plc2 flg3 cnt2 : Int32) (pn : Int32) (hpn : rg pn 16777216) => ended_rel (N := N) (line := line) (line' := line') (a1 := a1) (a2 := a2) (a3 := a3) (a4 := a4) (e := e) (wt := waits) (s := s) (l := l) (f := f) (t := t) (wk := true) (chd := dch) (jmp := cj) (dev := dev) (okey := key) (chn := pn) (cmd := 0) (plc := plc2) (flg := flg3) (cnt := cnt2) (rdy := wait) (tsz := rlen) (rd := tkn) (lns := lns2) (onl := len) (has := false) (dch := dch) (cj := cj) (addr := addr2) (flg2 := cflg) B 0 32 k3 hpn (by decide) (by decide) m6 m7 m8
  obtain ⟨pn, hpn⟩ : ∃ pn, pn = (place + (8 : Int32)) - (place + (8 : Int32)) / (16777216 : Int32) * (16777216 : Int32) := ⟨_, rfl⟩
  rw [← hpn] at n1 n2
  by_cases cA : place - place / (8 : Int32) * (8 : Int32) = 0 ∧ f_X6_holds place 8 = true
  · obtain ⟨a, ha, epl⟩ := rg_nI (n := 16777216) k5 (by omega)
    have c2 : place ≤ (2040 : Int32) := (holds8 k5).mp cA.2
    have ha2 : a ≤ 2040 := by rw [epl] at c2; exact (nI_leI (by omega) (by omega)).mp c2
    have c1 : ¬ 0 < place - place / (8 : Int32) * (8 : Int32) := by rw [cA.1]; decide
    have p1 : place + (1 : Int32) = nI (a + 1) := by rw [epl]; exact nI_1 a
    have p4 : place + (4 : Int32) = nI (a + 4) := by rw [epl]; exact nI_add a 4
    have p6 : place + (6 : Int32) = nI (a + 6) := by rw [epl]; exact nI_add a 6
    have pc : place.toNatClampNeg = a := by rw [epl]; exact nI_clamp (by omega)
    have pc4 : (place + (4 : Int32)).toNatClampNeg = a + 4 := by rw [p4]; exact nI_clamp (by omega)
    obtain ⟨x0, hx0⟩ : ∃ x, x = uB B a := ⟨_, rfl⟩
    obtain ⟨y1, hy1⟩ : ∃ y, y = f_X8_field (uB B) (nI (a + 1)) 3 := ⟨_, rfl⟩
    obtain ⟨y4, hy4⟩ : ∃ y, y = uB B (a + 4) := ⟨_, rfl⟩
    obtain ⟨y6, hy6⟩ : ∃ y, y = f_X8_field (uB B) (nI (a + 6)) 2 := ⟨_, rfl⟩
    have e0 : f_X6_byteAt B place = x0 := by rw [hx0, epl]; exact byteAt_in B a (by omega)
    have e1 : f_X6_wordAt B place &&& (16777215 : Int32) = y1 := by rw [hy1, epl]; exact word24 B a (by omega)
    have e4 : f_X6_byteAt B (place + (4 : Int32)) = y4 := by rw [hy4, p4]; exact byteAt_in B (a + 4) (by omega)
    have e6 : f_X6_halfAt B (place + (6 : Int32)) = y6 := by rw [hy6, p6]; exact halfAt_eq B (a + 6) (by omega)
    have r1 : rg y1 16777216 := by
      have := nB_lt B (a + 1); have := nB_lt B (a + 1 + 1); have := nB_lt B (a + 1 + 2)
      rw [hy1, field3_nI B (by omega)]; exact nI_rg (by omega) (by omega)
    have r4 : rg y4 256 := by
      have := nB_lt B (a + 4)
      rw [hy4, uB_nB]; exact nI_rg (by omega) (by omega)
    have r6 : rg y6 65536 := by
      have := nB_lt B (a + 6); have := nB_lt B (a + 6 + 1)
      rw [hy6, half_nI B (by omega)]; exact nI_rg (by omega) (by omega)
    have hno := tk_no true waits dev key place false dch cj addr flg2 cnt2 un ck made front wait rlen tkn (lns2, len) lens qu rc B cA.1 cA.2
    have hju := tk_jump true waits dev key place false dch cj addr flg2 cnt2 un ck made front wait rlen tkn (lns2, len) lens qu rc B cA.1 cA.2
    have hgo := tk_go true waits dev key place false dch cj addr flg2 cnt2 un ck made front wait rlen tkn (lns2, len) lens qu rc B cA.1 cA.2
    have gno := mt_no a1 a2 a3 a4 e waits s l f t true dch cj dev key place 0 plc flg cnt wait rlen tkn lns2 len (uB B) card filled tk c1 c2
    have gju := mt_jump a1 a2 a3 a4 e waits s l f t true dch cj dev key place 0 plc flg cnt wait rlen tkn lns2 len (uB B) card filled tk c1 c2
    have gch := mt_chain a1 a2 a3 a4 e waits s l f t true dch cj dev key place 0 plc flg cnt wait rlen tkn lns2 len (uB B) card filled tk c1 c2
    have gop := mt_open a1 a2 a3 a4 e waits s l f t true dch cj dev key place 0 plc flg cnt wait rlen tkn lns2 len (uB B) card filled tk c1 c2
    rw [e0, e1, e4, e6, n1] at hno hju hgo
    rw [pc4, pc, p1, p6, ← hx0, ← hy1, ← hy4, ← hy6] at gno gju gch gop
    rw [← hpn] at gno gch gop
    rw [takeable_iff] at hno hju hgo
    by_cases cT : (x0 = 8 ∧ ¬ cj = true) ∨ (¬ x0 = 8 ∧ ¬ y6 = 0 ∧ (dch = true ∨ x0 = (if dev = (1 : Int32) then (2 : Int32) else 1)))
    · by_cases c8 : x0 = 8
      · have cj0 : ¬ cj = true := by
          rcases cT with q | q
          · exact q.2
          · exact absurd c8 q.1
        refine ⟨_, _, _, _, _, _, _, _, _, _, mk_take _ _ _ _ _ _ _ _ _ _ _ _ _ _ _ _ _ _ _ _ (hju cT c8), gju c8 cj0, hsm, R_st_up hst, R_pr_up hpr, rfl, ⟨rfl, rfl, rfl, rfl, rfl, m6, m7, m8, fun _ => ?_⟩, R_rd_of hq⟩
        exact ⟨k1, rfl, k3, rfl, r1, rfl, ⟨fun q => (by cases q), fun q => absurd rfl q⟩, fun _ => ⟨rfl, k11⟩, fun q => (by cases q)⟩
      · have cG : ¬ y6 = 0 ∧ (dch = true ∨ x0 = (if dev = (1 : Int32) then (2 : Int32) else 1)) := by
          rcases cT with q | q
          · exact absurd q.1 c8
          · exact q.2
        obtain ⟨c60, cG2⟩ := cG
        have r61 : 1 ≤ y6.toInt := by
          have := r6.1
          rw [q_eq, q_0] at c60
          omega
        have hc0 : ¬ (if dev = (1 : Int32) then (2 : Int32) else 1) = 0 := by split <;> decide
        have hg := hgo cT c8
        by_cases cd : dch = true
        · subst cd
          rw [bg_chain (dch := false)] at hg
          refine ⟨_, _, _, _, _, _, _, _, _, _, mk_take _ _ _ _ _ _ _ _ _ _ _ _ _ _ _ _ _ _ _ _ hg, gch c8 rfl c60, hsm, R_st_up hst, R_pr_up hpr, rfl, ⟨rfl, rfl, rfl, rfl, rfl, m6, m7, m8, fun _ => ?_⟩, R_rd_of hq⟩
          exact ⟨k1, rfl, k3, rfl, n2, rfl, ⟨fun _ => hc0, fun _ => rfl⟩, fun q => (by cases q), fun _ => ⟨rfl, rfl, r1, rfl, r4, rfl, r61, r6.2, k11 rfl⟩⟩
        · have cd2 : dch = false := by simpa using cd
          subst cd2
          have gg := gop c8 cd c60 (cG2.resolve_left cd)
          rcases k1 with q | q
          · subst q
            by_cases cw : wait = 0
            · rw [bg_none (dev := 1) (dch := false) (h2 := cw)] at hg
              rw [open_none _ _ _ _ _ _ _ _ _ _ _ _ _ _ _ _ _ _ _ _ _ _ _ _ _ _ _ _ cw] at gg
              obtain ⟨z1, z2⟩ := ended_rel (N := N) (line := line) (line' := line') (a1 := a1) (a2 := a2) (a3 := a3) (a4 := a4) (e := e) (wt := waits) (s := s) (l := l) (f := f) (t := t) (wk := true) (chd := false) (jmp := false) (dev := 1) (okey := key) (chn := pn) (cmd := if (1 : Int32) = (1 : Int32) then (2 : Int32) else 1) (plc := y1) (flg := y4) (cnt := y6) (rdy := wait) (tsz := rlen) (rd := tkn) (lns := lns2) (onl := len) (has := true) (dch := false) (cj := false) (addr := y1) (flg2 := y4) B 13 0 k3 n2 (by decide) (by decide) m6 m7 m8
              rw [z1] at gg
              exact ⟨_, _, _, _, _, _, _, _, _, _, mk_take _ _ _ _ _ _ _ _ _ _ _ _ _ _ _ _ _ _ _ _ hg, gg, hsm, R_st_up hst, R_pr_up hpr, rfl, z2, R_rd_of hq⟩
            · obtain ⟨v1, v2⟩ := next_rd hq cw
              rw [open_rec _ _ _ _ _ _ _ _ _ _ _ _ _ _ _ _ _ _ _ _ _ _ _ _ _ _ _ _ cw, opD_eq] at gg
              have hf0 := g5 0 (Nat.zero_le _)
              by_cases cz : filled 0 = 0
              · rw [if_pos cz] at gg
                rw [bg_empty (dev := 1) (dch := false) (h2 := cw) (h3 := show ¬ 0 < lens (front &&& (7 : Int32)).toNatClampNeg by rw [v2, cz]; decide), v2] at hg
                obtain ⟨C', wt', wk', y1', y2, y3⟩ := over_rel (N := N) (line := line) (line' := line') (a1 := a1) (a2 := a2) (a3 := a3) (a4 := a4) (e := e) (wt := waits) (s := s) (l := l) (f := f) (t := t) (jmp := false) (dev := 1) (okey := key) (chn := pn) (cmd := if (1 : Int32) = (1 : Int32) then (2 : Int32) else 1) (plc := y1) (flg := y4) (cnt := y6) (rdy := wait - (1 : Int32)) (tsz := filled 0) (rd := 0) (lns := lns2) (onl := len) (has := true) (dch := false) (addr := y1) (un := un) (ck := ck) (made := made) (front := ((front &&& (7 : Int32)) + (1 : Int32)) &&& (7 : Int32)) (wait := wait - (1 : Int32)) B (Or.inl rfl) k3 n2 r4 r6.1 m6 m7 m8
                rw [y1'] at hg
                rw [y2] at gg
                rw [v2] at v1
                exact ⟨_, _, _, _, _, _, _, _, _, _, mk_take _ _ _ _ _ _ _ _ _ _ _ _ _ _ _ _ _ _ _ _ hg, gg, hsm, R_st_up hst, R_pr_up hpr, rfl, y3, R_rd_of v1⟩
              · have cp : 0 < filled 0 := by
                  rw [q_lt, q_0]
                  rw [q_eq, q_0] at cz
                  have := hf0.1
                  omega
                rw [if_neg cz] at gg
                rw [bg_rec (dev := 1) (dch := false) (h2 := cw) (h3 := show 0 < lens (front &&& (7 : Int32)).toNatClampNeg by rw [v2]; exact cp), v2] at hg
                rw [v2] at v1
                refine ⟨_, _, _, _, _, _, _, _, _, _, mk_take _ _ _ _ _ _ _ _ _ _ _ _ _ _ _ _ _ _ _ _ hg, gg, hsm, R_st_up hst, R_pr_up hpr, rfl, ⟨rfl, rfl, rfl, rfl, rfl, m6, m7, m8, fun _ => ?_⟩, R_rd_of v1⟩
                rw [q_lt] at cp
                exact ⟨Or.inl rfl, rfl, k3, rfl, n2, rfl, ⟨fun _ => hc0, fun _ => rfl⟩, fun q => (by cases q), fun _ => ⟨rfl, rfl, r1, rfl, r4, rfl, r61, r6.2, fun _ => cp⟩⟩
          · subst q
            rw [bg_line (dch := false) (h1 := show ¬ (2 : Int32) = 1 by decide)] at hg
            rw [open_line] at gg
            refine ⟨_, _, _, _, _, _, _, _, _, _, mk_take _ _ _ _ _ _ _ _ _ _ _ _ _ _ _ _ _ _ _ _ hg, gg, hsm, R_st_up hst, R_pr_up hpr, rfl, ⟨rfl, rfl, rfl, rfl, rfl, by decide, by rw [q_0]; omega, m8, fun _ => ?_⟩, R_rd_of hq⟩
            exact ⟨Or.inr rfl, rfl, k3, rfl, n2, rfl, ⟨fun _ => hc0, fun _ => rfl⟩, fun q => (by cases q), fun _ => ⟨rfl, rfl, r1, rfl, r4, rfl, r61, r6.2, fun q => absurd q (by decide)⟩⟩
    · have hx := hno cT
      have gx := gno (by
        by_cases u1 : x0 = 8
        · by_cases u2 : cj = true
          · exact Or.inl ⟨u1, u2⟩
          · exact absurd (Or.inl ⟨u1, u2⟩) cT
        · refine Or.inr ⟨u1, ?_⟩
          by_cases u3 : y6 = 0
          · exact Or.inr u3
          · refine Or.inl ⟨fun u4 => cT (Or.inr ⟨u1, u3, Or.inl u4⟩), fun u5 => cT (Or.inr ⟨u1, u3, Or.inr u5⟩)⟩)
      obtain ⟨z1, z2⟩ := hend y1 y4 y1 y4 y6 pn n2
      rw [z1] at gx
      exact ⟨_, _, _, _, _, _, _, _, _, _, mk_take _ _ _ _ _ _ _ _ _ _ _ _ _ _ _ _ _ _ _ _ hx, gx, hsm, R_st_up hst, R_pr_up hpr, rfl, z2, R_rd_of hq⟩
  · have hA : 0 < place - place / (8 : Int32) * (8 : Int32) ∨ ¬ place ≤ (2040 : Int32) := by
      by_cases q : place - place / (8 : Int32) * (8 : Int32) = 0
      · exact Or.inr fun z => cA ⟨q, (holds8 k5).mpr z⟩
      · left
        obtain ⟨a, ha, epl⟩ := rg_nI (n := 16777216) k5 (by omega)
        rw [epl, show (8 : Int32) = nI 8 from rfl, pk_rem (by omega) (by omega) (by omega)] at q ⊢
        refine nI_lt (a := 0) ?_ (by omega)
        rcases Nat.eq_zero_or_pos (a % 8) with z | z
        · rw [z] at q; exact absurd rfl q
        · exact z
    have x1 := tk_place true waits dev key place false dch cj addr flg2 cnt2 un ck made front wait rlen tkn (lns2, len) lens qu rc B cA
    have x2 := mt_place a1 a2 a3 a4 e waits s l f t true dch cj dev key place 0 plc flg cnt wait rlen tkn lns2 len (uB B) card filled tk hA
    rw [n1] at x1
    rw [← hpn] at x2
    obtain ⟨z1, z2⟩ := hend addr flg2 plc flg 0 pn n2
    rw [z1] at x2
    exact ⟨_, _, _, _, _, _, _, _, _, _, mk_take _ _ _ _ _ _ _ _ _ _ _ _ _ _ _ _ _ _ _ _ x1, x2, hsm, R_st_up hst, R_pr_up hpr, rfl, z2, R_rd_of hq⟩
