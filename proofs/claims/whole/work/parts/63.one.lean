/-! one move with a command under way: both sides -/
def Mv (N : Nat) (P : tP) (T : tT) (C : tCh) (L : Int32 × Int32) (line : rw_) (Rd : tRd) (lens mkg qu rc B : rw_) (o : tO) (b card filled tk line' : rw_) : Prop :=
  R_st T o ∧ R_pr P o ∧ b = uB B ∧ R_mv N C L line o line' ∧ R_rd Rd lens mkg qu rc o card filled tk
theorem R_mv_mono {N M : Nat} (hN : N ≤ M) {C : tCh} {L : Int32 × Int32} {line : rw_} {o : tO} {line' : rw_} (h : R_mv N C L line o line') : R_mv M C L line o line' := by
  obtain ⟨c1, c2, c3, c4⟩ := C
  obtain ⟨l1, l2⟩ := L
  obtain ⟨a1, a2, a3, a4, e, wt, s, l, f, t, wk, chd, jmp, dev, okey, chn, cmd, plc, flg, cnt, rdy, tsz, rd, lns, onl⟩ := o
  obtain ⟨h1, h2, h3, h4, h5, h6, h7, h8, h9⟩ := h
  exact ⟨h1, h2, h3, h4, h5, h6, by omega, h8, h9⟩
theorem mk_move (works waits : Bool) (dev key place : Int32) (dch jmp : Bool) (addr flg cnt un ck : Int32) (L : Int32 × Int32) (line : rw_) (Rd : tRd) (lens qu rc B K : rw_) {C' : tCh} {L' : Int32 × Int32} {line1 : rw_} {Rd' : tRd} {B1 : rw_}
    (h : f_X0_moveByte (works, waits, dev, key, place, true, dch, jmp, addr, flg, cnt, un, ck) L line Rd rc B K = (C', L', line1, Rd', B1)) :
    f_X0_makeMove (works, waits, dev, key, place, true, dch, jmp, addr, flg, cnt, un, ck) L line Rd lens qu rc B K = (C', L', line1, Rd', rc, rep C' B1) := by
  unfold f_X0_makeMove
  dsimp only
  rw [if_pos rfl, h]
  unfold q_let rep
  dsimp only
  split <;> rfl
theorem mk_take (works waits : Bool) (dev key place : Int32) (dch jmp : Bool) (addr flg cnt un ck : Int32) (L : Int32 × Int32) (line : rw_) (Rd : tRd) (lens qu rc B K : rw_) {C' : tCh} {L' : Int32 × Int32} {Rd' : tRd} {rc' : rw_}
    (h : f_X0_takeCommand (works, waits, dev, key, place, false, dch, jmp, addr, flg, cnt, un, ck) L Rd lens qu rc B = (C', L', Rd', rc')) :
    f_X0_makeMove (works, waits, dev, key, place, false, dch, jmp, addr, flg, cnt, un, ck) L line Rd lens qu rc B K = (C', L', line, Rd', rc', rep C' B) := by
  unfold f_X0_makeMove
  dsimp only
  rw [if_neg (by decide), h]
  unfold q_let rep
  dsimp only
  split <;> rfl
theorem Q_rd_up {made front wait rlen tkn : Int32} {lens mkg qu rc : rw_} {rdy tsz rd rd' : Int32} {card filled tk : rw_} (h : Q_rd made front wait rlen tkn lens mkg qu rc rdy tsz rd card filled tk) (h0 : 0 ≤ rd'.toInt) (h1 : rd'.toInt ≤ tsz.toInt) : Q_rd made front wait rlen rd' lens mkg qu rc rdy tsz rd' card filled tk := by
  obtain ⟨g1, g2, g3, g4, g5, g6, g7, g8, g9, g10, g11, g12, g13, g14, g15⟩ := h
  exact ⟨g1, g2, g3, g4, g5, g6, g7, g8, rfl, h0, h1, g12, g13, g14, g15⟩
set_option maxHeartbeats 1000000 in
theorem move_rel {N : Nat} (hN : N ≤ 4000) {P : tP} {T : tT} {C : tCh} {L : Int32 × Int32} {line : rw_} {Rd : tRd} {lens mkg qu rc B : rw_} {o : tO} {b card filled tk line' : rw_} (K : rw_) (h : Mv N P T C L line Rd lens mkg qu rc B o b card filled tk line') (hw : C.1 = true) (hh : C.2.2.2.2.2.1 = true) :
    ∃ (C' : tCh) (L' : Int32 × Int32) (line1 : rw_) (Rd' : tRd) (B' : rw_) (o' : tO) (b' line1' : rw_), f_X0_makeMove C L line Rd lens qu rc B K = (C', L', line1, Rd', rc, B') ∧ f_X8_move o b K line' tk = (o', b', line1') ∧ s_X8_move o b K tk ∧ Mv (N + 1) P T C' L' line1 Rd' lens mkg qu rc B' o' b' card filled tk line1' := by
  obtain ⟨works, waits, dev, key, place, has, dch, cj, addr, flg2, cnt2, un, ck⟩ := C
  obtain ⟨lns2, len⟩ := L
  obtain ⟨made, front, wait, rlen, tkn⟩ := Rd
  obtain ⟨a1, a2, a3, a4, e, wt, s, l, f, t, wk, chd, jmp, dev', okey, chn, cmd, plc, flg, cnt, rdy, tsz, rd, lns, onl⟩ := o
  obtain ⟨hst, hpr, rfl, hmv, hrd⟩ := h
  obtain ⟨m1, m2, m3, m4, m5, m6, m7, m8, m9⟩ := hmv
  have hq := R_rd_to hrd
  obtain ⟨g1, g2, g3, g4, g5, g6, g7, g8, g9, g10, g11, g12, g13, g14, g15⟩ := id hq
  dsimp only at hw hh
  subst hw hh
  have hk : Q_wk dev key place true dch cj addr flg2 cnt2 chd jmp okey chn cmd plc flg cnt tsz rd := m9 rfl
  obtain ⟨k1, k2, k3, k4, k5, k6, k7, k8, k9⟩ := hk
  obtain ⟨j1, j2, j3, j4, j5, j6, j7, j8, j9⟩ := k9 rfl
  have hcmd : ¬ cmd = 0 := k7.mp rfl
  subst m1 m2 m3 m4 m5 k2 k4 k6 j1 j2 j4 j6 g1 g8 g9
  have hsafe : dev = 1 → vp_in tkn 16 := by
    intro q
    have := j9 q
    exact vp_in_iff.mpr ⟨g10, by omega⟩
  have hsm : s_X8_move (a1, a2, a3, a4, e, waits, s, l, f, t, true, false, cj, dev, key, place, cmd, addr, flg2, cnt2, wait, rlen, tkn, lns2, len) (uB B) K tk := s_move_ok a1 a2 a3 a4 e waits s l f t true false cj dev key place cmd addr flg2 cnt2 wait rlen tkn lns2 len (uB B) K tk j3.1 hsafe m6
  by_cases c : addr < (2048 : Int32)
  · rcases k1 with q | q
    · subst q
      obtain ⟨C', B1, wt', wk', chd', cmd', plc', cnt', rd', x1, x2, x3, x4, x5⟩ := mv1_rel (N := N) (line := line) (line' := line') (rc := rc) (tk := tk) (K := K) (a1 := a1) (a2 := a2) (a3 := a3) (a4 := a4) (e := e) (wt := waits) (s := s) (l := l) (f := f) (t := t) (jmp := cj) (okey := key) (chn := place) (cmd := cmd) (plc := addr) (flg := flg2) (cnt := cnt2) (rdy := wait) (tsz := rlen) (rd := tkn) (lns := lns2) (onl := len) (dch := dch) (un := un) (ck := ck) (made := made) (front := front) (wait := wait) B k3 k5 j3 j5 j7 j8 g10 (j9 rfl) g12 g13 hcmd m6 m7 m8 c
      exact ⟨C', _, line, _, _, _, _, line', mk_move _ _ _ _ _ _ _ _ _ _ _ _ _ _ _ _ _ _ _ _ x1, x2, hsm, R_st_up hst, R_pr_up hpr, rfl, R_mv_mono (by omega) x3, R_rd_of (Q_rd_up hq x4 x5)⟩
    · subst q
      obtain ⟨C', line1, line1', wt', wk', chd', cmd', x1, x2, x3⟩ := mv2_rel (N := N) (line := line) (line' := line') (rc := rc) (tk := tk) (K := K) (a1 := a1) (a2 := a2) (a3 := a3) (a4 := a4) (e := e) (wt := waits) (s := s) (l := l) (f := f) (t := t) (jmp := cj) (okey := key) (chn := place) (cmd := cmd) (plc := addr) (flg := flg2) (cnt := cnt2) (rdy := wait) (tsz := rlen) (rd := tkn) (lns := lns2) (onl := len) (dch := dch) (un := un) (ck := ck) (made := made) (front := front) (wait := wait) B (by omega) k3 k5 j3 j5 j7 j8 g11 hcmd m6 m7 m8 c
      exact ⟨C', _, line1, _, _, _, _, line1', mk_move _ _ _ _ _ _ _ _ _ _ _ _ _ _ _ _ _ _ _ _ x1, x2, hsm, R_st_up hst, R_pr_up hpr, rfl, x3, R_rd_of hq⟩
  · obtain ⟨z1, z2⟩ := ended_rel (N := N) (line := line) (line' := line') (a1 := a1) (a2 := a2) (a3 := a3) (a4 := a4) (e := e) (wt := waits) (s := s) (l := l) (f := f) (t := t) (wk := true) (chd := false) (jmp := cj) (dev := dev) (okey := key) (chn := place) (cmd := cmd) (plc := addr) (flg := flg2) (cnt := cnt2) (rdy := wait) (tsz := rlen) (rd := tkn) (lns := lns2) (onl := len) (has := true) (dch := dch) (cj := cj) (addr := addr) (flg2 := flg2) B 0 32 k3 k5 (by decide) (by decide) m6 m7 m8
    have x1 := mv_out true waits dev key place true dch cj addr flg2 cnt2 un ck made front wait rlen tkn (lns2, len) line rc B K (fun q => c ((holds1 j3).mp q))
    have x2 := mm_out a1 a2 a3 a4 e waits s l f t true false cj dev key place cmd addr flg2 cnt2 wait rlen tkn lns2 len (uB B) K line' tk c
    rw [z1] at x2
    exact ⟨_, _, line, _, _, _, _, line', mk_move _ _ _ _ _ _ _ _ _ _ _ _ _ _ _ _ _ _ _ _ x1, x2, hsm, R_st_up hst, R_pr_up hpr, rfl, R_mv_mono (by omega) z2, R_rd_of hq⟩
