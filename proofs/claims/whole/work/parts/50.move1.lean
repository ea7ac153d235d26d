/-! one move of the channel: the relation while it moves, with a bound on the line's bytes -/
def R_mv (N : Nat) (C : tCh) (L : Int32 × Int32) (line : rw_) (o : tO) (line' : rw_) : Prop := match C, L, o with
  | (works, waits, dev, _), (lns, len), (_, _, _, _, _, waits', _, _, _, _, works', _, _, dev', _, _, _, _, _, _, _, _, _, lns', onl) =>
    works = works' ∧ waits = waits' ∧ dev = dev' ∧ lns = lns' ∧ len = onl ∧ 0 ≤ onl.toInt ∧ onl.toInt ≤ N ∧ line' = uB line ∧ (works = true → R_wk C o)
theorem R_mv_of {i : Nat} {C : tCh} {L : Int32 × Int32} {line : rw_} {o : tO} {line' : rw_} (h : R_ch i C L line o line') : R_mv (10 * i) C L line o line' := by
  obtain ⟨c1, c2, c3, c4⟩ := C
  obtain ⟨l1, l2⟩ := L
  obtain ⟨a1, a2, a3, a4, e, wt, s, l, f, t, wk, chd, jmp, dev, okey, chn, cmd, plc, flg, cnt, rdy, tsz, rd, lns, onl⟩ := o
  obtain ⟨h1, h2, h3, h4, h5, h6, h7, h8, h9⟩ := h
  exact ⟨h1, h2, h3, h4, h5, h6, by omega, h8, h9⟩
theorem R_mv_to {i N : Nat} {C : tCh} {L : Int32 × Int32} {line : rw_} {o : tO} {line' : rw_} (hN : N ≤ 10 * i) (h : R_mv N C L line o line') : R_ch i C L line o line' := by
  obtain ⟨c1, c2, c3, c4⟩ := C
  obtain ⟨l1, l2⟩ := L
  obtain ⟨a1, a2, a3, a4, e, wt, s, l, f, t, wk, chd, jmp, dev, okey, chn, cmd, plc, flg, cnt, rdy, tsz, rd, lns, onl⟩ := o
  obtain ⟨h1, h2, h3, h4, h5, h6, h7, h8, h9⟩ := h
  exact ⟨h1, h2, h3, h4, h5, h6, by omega, h8, h9⟩
/-- the class's bytes behind a move: the report comes if the channel works no more -/
def rep (C : tCh) (B : rw_) : rw_ := if C.1 = true then B else f_X0_putReport C B
/-- an ended channel -/
theorem ended_rel {N : Nat} {line line' : rw_} {a1 a2 a3 a4 : Int32} {e wt : Bool} {s l f t : Int32} {wk chd jmp : Bool} {dev okey chn cmd plc flg cnt rdy tsz rd lns onl : Int32} {has dch cj : Bool} {addr flg2 : Int32} (B : rw_) (u c : Int32) (hk : rg okey 16) (hp : rg chn 16777216) (hu : u &&& 255 = u) (hc : c &&& 255 = c) (h6 : 0 ≤ onl.toInt) (h7 : onl.toInt ≤ N) (h8 : line' = uB line) :
    f_X8_end (a1, a2, a3, a4, e, wt, s, l, f, t, wk, chd, jmp, dev, okey, chn, cmd, plc, flg, cnt, rdy, tsz, rd, lns, onl) (uB B) u c = ((a1, a2, a3, a4, e, true, s, l, f, t, false, chd, jmp, dev, okey, chn, cmd, plc, flg, cnt, rdy, tsz, rd, lns, onl), uB (rep (false, true, dev, okey, chn, has, dch, cj, addr, flg2, cnt, u, c) B)) ∧ R_mv N (false, true, dev, okey, chn, has, dch, cj, addr, flg2, cnt, u, c) (lns, onl) line (a1, a2, a3, a4, e, true, s, l, f, t, false, chd, jmp, dev, okey, chn, cmd, plc, flg, cnt, rdy, tsz, rd, lns, onl) line' := by
  refine ⟨?_, rfl, rfl, rfl, rfl, rfl, h6, h7, h8, fun h => by cases h⟩
  rw [end_eq]
  unfold rep
  rw [if_neg (show ¬ false = true by decide), report_eq B false true dev okey chn has dch cj addr flg2 cnt u c hk hp hu hc]
theorem over_rel {N : Nat} {line line' : rw_} {a1 a2 a3 a4 : Int32} {e wt : Bool} {s l f t : Int32} {jmp : Bool} {dev okey chn cmd plc flg cnt rdy tsz rd lns onl : Int32} {has dch : Bool} {addr un ck made front wait : Int32} (B : rw_) (hd : dev = 1 ∨ dev = 2) (hk : rg okey 16) (hp : rg chn 16777216) (hf : rg flg 256) (hc : 0 ≤ cnt.toInt) (h6 : 0 ≤ onl.toInt) (h7 : onl.toInt ≤ N) (h8 : line' = uB line) :
    ∃ (C' : tCh) (wt' wk' : Bool), f_X0_finishCommand (true, wt, dev, okey, chn, has, dch, jmp, addr, flg, cnt, un, ck) (made, front, wait, tsz, rd) = C' ∧ f_X8_over (a1, a2, a3, a4, e, wt, s, l, f, t, true, false, jmp, dev, okey, chn, cmd, plc, flg, cnt, rdy, tsz, rd, lns, onl) (uB B) = ((a1, a2, a3, a4, e, wt', s, l, f, t, wk', false, jmp, dev, okey, chn, 0, plc, flg, cnt, rdy, tsz, rd, lns, onl), uB (rep C' B)) ∧ R_mv N C' (lns, onl) line (a1, a2, a3, a4, e, wt', s, l, f, t, wk', false, jmp, dev, okey, chn, 0, plc, flg, cnt, rdy, tsz, rd, lns, onl) line' := by
  obtain ⟨x1, x2, x3⟩ := fin_eq true wt dev okey chn has dch jmp addr flg cnt un ck made front wait tsz rd
  obtain ⟨y1, y2, y3⟩ := over_eq a1 a2 a3 a4 e wt s l f t true false jmp dev okey chn cmd plc flg cnt rdy tsz rd lns onl (uB B) hf hc
  by_cases w : wrongLen dev rd tsz cnt flg
  · obtain ⟨z1, z2⟩ := ended_rel (N := N) (line := line) (line' := line') (a1 := a1) (a2 := a2) (a3 := a3) (a4 := a4) (e := e) (wt := wt) (s := s) (l := l) (f := f) (t := t) (wk := true) (chd := false) (jmp := jmp) (dev := dev) (okey := okey) (chn := chn) (cmd := 0) (plc := plc) (flg := flg) (cnt := cnt) (rdy := rdy) (tsz := tsz) (rd := rd) (lns := lns) (onl := onl) (has := false) (dch := false) (cj := jmp) (addr := addr) (flg2 := flg) B 12 64 hk hp (by decide) (by decide) h6 h7 h8
    exact ⟨_, true, false, x1 w, by rw [y1 w, z1], z2⟩
  · by_cases v : flg &&& 64 = 0
    · obtain ⟨z1, z2⟩ := ended_rel (N := N) (line := line) (line' := line') (a1 := a1) (a2 := a2) (a3 := a3) (a4 := a4) (e := e) (wt := wt) (s := s) (l := l) (f := f) (t := t) (wk := true) (chd := false) (jmp := jmp) (dev := dev) (okey := okey) (chn := chn) (cmd := 0) (plc := plc) (flg := flg) (cnt := cnt) (rdy := rdy) (tsz := tsz) (rd := rd) (lns := lns) (onl := onl) (has := false) (dch := false) (cj := jmp) (addr := addr) (flg2 := flg) B 12 0 hk hp (by decide) (by decide) h6 h7 h8
      exact ⟨_, true, false, x2 w v, by rw [y2 w v, z1], z2⟩
    · refine ⟨_, wt, true, x3 w v, ?_, rfl, rfl, rfl, rfl, rfl, h6, h7, h8, fun _ => ?_⟩
      · rw [y3 w v]
        rfl
      · exact ⟨hd, rfl, hk, rfl, hp, rfl, ⟨fun h => (by cases h), fun h => absurd rfl h⟩, fun _ => ⟨rfl, fun h => (by cases h)⟩, fun h => (by cases h)⟩
