/-! behind the byte: both sides -/
theorem tail_rel {N : Nat} {line line' : rw_} {a1 a2 a3 a4 : Int32} {e wt : Bool} {s l f t : Int32} {jmp : Bool} {dev okey chn cmd plc flg cnt rdy tsz rd lns onl : Int32} {dch : Bool} {un ck made front wait : Int32} (B : rw_) (hd : dev = 1 ∨ dev = 2) (hk : rg okey 16) (hp : rg chn 16777216) (ha : rg plc 16777216) (hf : rg flg 256) (hc : 0 ≤ cnt.toInt) (hc2 : cnt.toInt < 65536) (hrd : rd.toInt ≤ tsz.toInt) (hcmd : ¬ cmd = 0) (h6 : 0 ≤ onl.toInt) (h7 : onl.toInt ≤ N) (h8 : line' = uB line) :
    ∃ (C' : tCh) (wt' wk' chd' : Bool) (cmd' : Int32), f_X0_goOn (true, wt, dev, okey, chn, true, dch, jmp, plc, flg, cnt, un, ck) (made, front, wait, tsz, rd) = C' ∧ mtail (a1, a2, a3, a4, e, wt, s, l, f, t, true, false, jmp, dev, okey, chn, cmd, plc, flg, cnt, rdy, tsz, rd, lns, onl) (uB B) line' = ((a1, a2, a3, a4, e, wt', s, l, f, t, wk', chd', jmp, dev, okey, chn, cmd', plc, flg, cnt, rdy, tsz, rd, lns, onl), uB (rep C' B), line') ∧ R_mv N C' (lns, onl) line (a1, a2, a3, a4, e, wt', s, l, f, t, wk', chd', jmp, dev, okey, chn, cmd', plc, flg, cnt, rdy, tsz, rd, lns, onl) line' := by
  obtain ⟨x1, x2, x3, x4⟩ := goOn_eq true wt dev okey chn true dch jmp plc flg cnt un ck made front wait tsz rd
  obtain ⟨k, hk2, ek⟩ := rg_nI (n := 256) hf (by omega)
  have h128 : (128 : Int32) ≤ flg ↔ ¬ (flg &&& 128 = 0) := by rw [ek]; exact fl_128 k hk2
  have hat : (¬ rd < tsz) ↔ rd = tsz := by rw [q_lt, q_eq]; omega
  have hov := over_rel (N := N) (line := line) (line' := line') (a1 := a1) (a2 := a2) (a3 := a3) (a4 := a4) (e := e) (wt := wt) (s := s) (l := l) (f := f) (t := t) (jmp := jmp) (dev := dev) (okey := okey) (chn := chn) (cmd := cmd) (plc := plc) (flg := flg) (cnt := cnt) (rdy := rdy) (tsz := tsz) (rd := rd) (lns := lns) (onl := onl) (has := true) (dch := dch) (addr := plc) (un := un) (ck := ck) (made := made) (front := front) (wait := wait) B hd hk hp hf hc h6 h7 h8
  obtain ⟨C', wt', wk', y1, y2, y3⟩ := hov
  by_cases c1 : dev = 1 ∧ rd = tsz
  · refine ⟨C', wt', wk', false, 0, (x1 ⟨c1.1, hat.mpr c1.2⟩).trans y1, ?_, y3⟩
    unfold mtail
    dsimp only
    rw [if_pos (Or.inl c1), y2]
  · have c1' : ¬ (dev = 1 ∧ ¬ rd < tsz) := fun q => c1 ⟨q.1, hat.mp q.2⟩
    by_cases c2 : cnt = 0
    · by_cases c3 : (128 : Int32) ≤ flg
      · refine ⟨_, wt, true, true, 0, x2 c1' c2 (h128.mp c3), ?_, rfl, rfl, rfl, rfl, rfl, h6, h7, h8, fun _ => ?_⟩
        · unfold mtail
          dsimp only
          rw [if_neg (fun q => q.elim c1 (fun z => z.2 c3)), if_pos c2]
          rfl
        · refine ⟨hd, rfl, hk, rfl, hp, rfl, ⟨fun h => (by cases h), fun h => absurd rfl h⟩, fun _ => ⟨rfl, fun _ hdv => ?_⟩, fun h => (by cases h)⟩
          have : ¬ rd = tsz := fun q => c1 ⟨hdv, q⟩
          rw [q_eq] at this
          omega
      · refine ⟨C', wt', wk', false, 0, (x3 c1' c2 (Classical.byContradiction fun q => c3 (h128.mpr q))).trans y1, ?_, y3⟩
        unfold mtail
        dsimp only
        rw [if_pos (Or.inr ⟨c2, c3⟩), y2]
    · refine ⟨_, wt, true, false, cmd, x4 c1' c2, ?_, rfl, rfl, rfl, rfl, rfl, h6, h7, h8, fun _ => ?_⟩
      · unfold mtail
        dsimp only
        rw [if_neg (fun q => q.elim c1 (fun z => c2 z.1)), if_neg c2]
        rfl
      · have hc1 : 1 ≤ cnt.toInt := by rw [q_eq, q_0] at c2; omega
        refine ⟨hd, rfl, hk, rfl, hp, rfl, ⟨fun _ => hcmd, fun _ => rfl⟩, fun h => (by cases h), fun _ => ⟨rfl, rfl, ha, rfl, hf, rfl, hc1, hc2, fun hdv => ?_⟩⟩
        have : ¬ rd = tsz := fun q => c1 ⟨hdv, q⟩
        rw [q_eq] at this
        omega
