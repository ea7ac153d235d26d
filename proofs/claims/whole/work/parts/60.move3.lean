/-! one byte of a record: both sides -/
theorem open1 (K : rw_) {p : Int32} (h0 : 0 ≤ p.toInt) (h1 : p.toInt < 2048) {key : Int32} (hk : rg key 16) : f_X6_isOpen K p 1 key = true ↔ (key ≤ 0 ∨ K (p / (256 : Int32)).toNatClampNeg = key) := by
  obtain ⟨a, ha, rfl⟩ := nI_of (x := p) (by rw [q_lt, q_0]; omega)
  rw [nI_toInt ha] at h1
  have h := isOpen_iff K a 1 key (by omega) (by omega)
  have ez : key ≤ 0 ↔ key = 0 := by rw [q_le, q_eq, q_0]; have := hk.1; omega
  rw [show (1 : Int32) = nI 1 from rfl, h, ez, show (256 : Int32) = nI 256 from rfl, pk_div ha (by omega) (by omega), nI_clamp (by omega)]
  constructor
  · rintro (q | q)
    · exact Or.inl q
    · exact Or.inr (q (a / 256) (Nat.le_refl _) (by omega))
  · rintro (q | q)
    · exact Or.inl q
    · refine Or.inr fun i i1 i2 => ?_
      rw [show i = a / 256 by omega]
      exact q
theorem mv1_rel {N : Nat} {line line' rc tk K : rw_} {a1 a2 a3 a4 : Int32} {e wt : Bool} {s l f t : Int32} {jmp : Bool} {okey chn cmd plc flg cnt rdy tsz rd lns onl : Int32} {dch : Bool} {un ck made front wait : Int32} (B : rw_) (hk : rg okey 16) (hp : rg chn 16777216) (ha : rg plc 16777216) (hf : rg flg 256) (hc : 1 ≤ cnt.toInt) (hc2 : cnt.toInt < 65536) (hr0 : 0 ≤ rd.toInt) (hrd : rd.toInt < tsz.toInt) (hts : tsz.toInt ≤ 16) (htk : ∀ t : Nat, t < tsz.toNatClampNeg → rc t &&& 255 = tk t) (hcmd : ¬ cmd = 0) (h6 : 0 ≤ onl.toInt) (h7 : onl.toInt ≤ N) (h8 : line' = uB line) (h : plc < (2048 : Int32)) :
    ∃ (C' : tCh) (B1 : rw_) (wt' wk' chd' : Bool) (cmd' plc' cnt' rd' : Int32), f_X0_moveByte (true, wt, 1, okey, chn, true, dch, jmp, plc, flg, cnt, un, ck) (lns, onl) line (made, front, wait, tsz, rd) rc B K = (C', (lns, onl), line, (made, front, wait, tsz, rd'), B1) ∧ f_X8_move (a1, a2, a3, a4, e, wt, s, l, f, t, true, false, jmp, 1, okey, chn, cmd, plc, flg, cnt, rdy, tsz, rd, lns, onl) (uB B) K line' tk = ((a1, a2, a3, a4, e, wt', s, l, f, t, wk', chd', jmp, 1, okey, chn, cmd', plc', flg, cnt', rdy, tsz, rd', lns, onl), uB (rep C' B1), line') ∧ R_mv N C' (lns, onl) line (a1, a2, a3, a4, e, wt', s, l, f, t, wk', chd', jmp, 1, okey, chn, cmd', plc', flg, cnt', rdy, tsz, rd', lns, onl) line' ∧ 0 ≤ rd'.toInt ∧ rd'.toInt ≤ tsz.toInt := by
  obtain ⟨p0, p1⟩ := ha
  have hpl : plc.toInt < 2048 := by rw [q_lt, q_2048] at h; exact h
  obtain ⟨pn, hpn, ep⟩ := nI_of (x := plc) (by rw [q_lt, q_0]; omega)
  obtain ⟨rn, hrn, er⟩ := nI_of (x := rd) (by rw [q_lt, q_0]; omega)
  obtain ⟨k, hk2, ek⟩ := rg_nI (n := 256) hf (by omega)
  have h16 : ((flg / 16) - (flg / 16) / 2 * 2 = 0) ↔ (flg &&& 16 = 0) := by rw [ek]; exact fl_16 k hk2
  have e1 : (plc + (1 : Int32)).toInt = plc.toInt + 1 := by rw [q_addI (by rw [q_1]; omega) (by rw [q_1]; omega), q_1]
  have e2 : (cnt - (1 : Int32)).toInt = cnt.toInt - 1 := by rw [q_subI (by rw [q_1]; omega) (by rw [q_1]; omega), q_1]
  have e3 : (rd + (1 : Int32)).toInt = rd.toInt + 1 := by rw [q_addI (by rw [q_1]; omega) (by rw [q_1]; omega), q_1]
  have hh := (holds1 ⟨p0, p1⟩).mpr h
  have htail := fun (B1 : rw_) => tail_rel (N := N) (line := line) (line' := line') (a1 := a1) (a2 := a2) (a3 := a3) (a4 := a4) (e := e) (wt := wt) (s := s) (l := l) (f := f) (t := t) (jmp := jmp) (dev := 1) (okey := okey) (chn := chn) (cmd := cmd) (plc := plc + (1 : Int32)) (flg := flg) (cnt := cnt - (1 : Int32)) (rdy := rdy) (tsz := tsz) (rd := rd + (1 : Int32)) (lns := lns) (onl := onl) (dch := dch) (un := un) (ck := ck) (made := made) (front := front) (wait := wait) B1 (Or.inl rfl) hk hp ⟨by omega, by omega⟩ hf (by omega) (by omega) (by omega) hcmd h6 h7 h8
  by_cases c1 : flg &&& 16 = 0
  · by_cases c2 : f_X6_isOpen K plc 1 okey = true
    · obtain ⟨C', wt', wk', chd', cmd', x1, x2, x3⟩ := htail (f_X6_putByte B plc (rc rd.toNatClampNeg &&& (255 : Int32)))
      have hB : uB (f_X6_putByte B plc (rc rd.toNatClampNeg &&& (255 : Int32))) = upd (uB B) plc.toNatClampNeg (tk rd.toNatClampNeg) := by
        have hr2 : rd.toNatClampNeg < tsz.toNatClampNeg := by
          obtain ⟨tn, htn, et⟩ := nI_of (x := tsz) (by rw [q_lt, q_0]; omega)
          rw [er, et, nI_toInt hrn, nI_toInt htn] at hrd
          rw [er, et, nI_clamp hrn, nI_clamp htn]
          omega
        rw [← htk _ hr2, ep, nI_clamp hpn]
        rw [ep, nI_toInt hpn] at hpl
        rw [putByte_in B pn _ (by omega), uB_put]
        congr 1
        apply b_ext
        intro i hi
        rw [b_and, b_and, b_255]
        cases bt _ i <;> simp
      refine ⟨C', f_X6_putByte B plc (rc rd.toNatClampNeg &&& (255 : Int32)), wt', wk', chd', cmd', plc + (1 : Int32), cnt - (1 : Int32), rd + (1 : Int32), ?_, ?_, x3, by omega, by omega⟩
      · rw [mv_keep true wt okey chn true dch jmp plc flg cnt un ck made front wait tsz rd (lns, onl) line rc B K hh c1 c2 (by rw [q_lt, q_0]; omega) (by rw [q_le, q_16]; omega), x1]
      · rw [mm_keep a1 a2 a3 a4 e wt s l f t true false jmp 1 okey chn cmd plc flg cnt rdy tsz rd lns onl (uB B) K line' tk h rfl (h16.mpr c1) ((open1 K p0 hpl hk).mp c2), ← hB]
        exact x2
    · have c3 : ¬ (okey ≤ 0 ∨ K (plc / (256 : Int32)).toNatClampNeg = okey) := fun q => c2 ((open1 K p0 hpl hk).mpr q)
      obtain ⟨z1, z2⟩ := ended_rel (N := N) (line := line) (line' := line') (a1 := a1) (a2 := a2) (a3 := a3) (a4 := a4) (e := e) (wt := wt) (s := s) (l := l) (f := f) (t := t) (wk := true) (chd := false) (jmp := jmp) (dev := 1) (okey := okey) (chn := chn) (cmd := cmd) (plc := plc) (flg := flg) (cnt := cnt) (rdy := rdy) (tsz := tsz) (rd := rd) (lns := lns) (onl := onl) (has := true) (dch := dch) (cj := jmp) (addr := plc) (flg2 := flg) B 0 16 hk hp (by decide) (by decide) h6 h7 h8
      refine ⟨_, B, true, false, false, cmd, plc, cnt, rd, mv_key true wt okey chn true dch jmp plc flg cnt un ck made front wait tsz rd (lns, onl) line rc B K hh c1 c2, ?_, z2, hr0, by omega⟩
      rw [mm_key a1 a2 a3 a4 e wt s l f t true false jmp 1 okey chn cmd plc flg cnt rdy tsz rd lns onl (uB B) K line' tk h rfl (h16.mpr c1) (fun q => c3 (Or.inl q)) (fun q => c3 (Or.inr q)), z1]
  · obtain ⟨C', wt', wk', chd', cmd', x1, x2, x3⟩ := htail B
    refine ⟨C', B, wt', wk', chd', cmd', plc + (1 : Int32), cnt - (1 : Int32), rd + (1 : Int32), ?_, ?_, x3, by omega, by omega⟩
    · rw [mv_skip true wt okey chn true dch jmp plc flg cnt un ck made front wait tsz rd (lns, onl) line rc B K hh c1, x1]
    · rw [mm_skip a1 a2 a3 a4 e wt s l f t true false jmp 1 okey chn cmd plc flg cnt rdy tsz rd lns onl (uB B) K line' tk h rfl (fun q => c1 (h16.mp q))]
      exact x2
