/-! the instructions that start and test the channel -/
theorem key28 (B : rw_) (a : Nat) (ha : a + 4 ≤ 2048) : ((f_X6_wordAt B (nI a)).toUInt32 >>> ((28 : Int32).toUInt32 &&& Int32.toUInt32 31)).toInt32 = uB B a / (16 : Int32) := by
  have h0 := nB_lt B a
  have e1 : uB B a / (16 : Int32) = uB B a >>> (nI 4 &&& 31) := by
    rw [uB_nB, show nI (nB B a) / (16 : Int32) = nI (nB B a / 16) from pk_div (d := 16) (by omega) (by omega) (by omega)]
    exact (shr4 (by omega)).symm
  rw [e1, wordAt_eq B a ha, field4 (uB B) a ha]
  refine b_ext fun i hi => ?_
  rw [b_sshr 4 (by omega) _ hi]
  refine (b_ushr 28 (by omega) _ i).trans ?_
  by_cases c : i < 4
  · rw [if_pos (by omega), b_or, b_shl8 _ (by omega), b_or, b_shl8 _ (by omega), b_or, b_shl8 _ (by omega), uB_hi B (a + 3) (by omega), uB_hi B (a + 2) (by omega), uB_hi B (a + 1) (by omega), decide_eq_true (by omega), decide_eq_true (by omega), decide_eq_true (by omega)]
    simp only [Bool.true_and, Bool.or_false]
    congr 1
    omega
  · rw [b_big (by omega)]
    split
    · rw [uB_hi B a (by omega)]
    · rw [uB_hi B a (by omega)]
def ChR (i : Nat) (C : tCh) (L : Int32 × Int32) (line : rw_) (w : Bool) (R : tR) (line' : rw_) (Rd : tRd) (lens mkg qu rc card filled tk : rw_) : Prop :=
  R_ch i C L line (0, 0, 0, 0, false, w, 0, 0, 0, 0, R) line' ∧ R_rd Rd lens mkg qu rc (0, 0, 0, 0, false, w, 0, 0, 0, 0, R) card filled tk
theorem ChR_of {i : Nat} {C : tCh} {L : Int32 × Int32} {line : rw_} {a1 a2 a3 a4 : Int32} {e w : Bool} {s l f t : Int32} {R : tR} {line' : rw_} {Rd : tRd} {lens mkg qu rc card filled tk : rw_} (h1 : R_ch i C L line (a1, a2, a3, a4, e, w, s, l, f, t, R) line') (h2 : R_rd Rd lens mkg qu rc (a1, a2, a3, a4, e, w, s, l, f, t, R) card filled tk) : ChR i C L line w R line' Rd lens mkg qu rc card filled tk := by
  obtain ⟨wk, chd, jmp, dev, okey, chn, cmd, plc, flg, cnt, rdy, tsz, rd, lns, onl⟩ := R
  obtain ⟨made, front, wait, rlen, tkn⟩ := Rd
  exact ⟨R_ch_up h1, R_rd_of (R_rd_to h2)⟩
theorem ChR_to {i : Nat} {C : tCh} {L : Int32 × Int32} {line : rw_} {w : Bool} {R : tR} {line' : rw_} {Rd : tRd} {lens mkg qu rc card filled tk : rw_} (h : ChR i C L line w R line' Rd lens mkg qu rc card filled tk) (a1 a2 a3 a4 : Int32) (e : Bool) (s l f t : Int32) : R_ch i C L line (a1, a2, a3, a4, e, w, s, l, f, t, R) line' ∧ R_rd Rd lens mkg qu rc (a1, a2, a3, a4, e, w, s, l, f, t, R) card filled tk := by
  obtain ⟨wk, chd, jmp, dev, okey, chn, cmd, plc, flg, cnt, rdy, tsz, rd, lns, onl⟩ := R
  obtain ⟨made, front, wait, rlen, tkn⟩ := Rd
  exact ⟨R_ch_up h.1, R_rd_of (R_rd_to h.2)⟩
/-- the works flag, the waits flag, the device: equal on both sides -/
theorem ChR_eq {i : Nat} {works waits : Bool} {dev : Int32} {c : Int32 × Int32 × Bool × Bool × Bool × Int32 × Int32 × Int32 × Int32 × Int32} {L : Int32 × Int32} {line : rw_} {w wk chd jmp : Bool} {dev' : Int32} {r : Int32 × Int32 × Int32 × Int32 × Int32 × Int32 × Int32 × Int32 × Int32 × Int32 × Int32} {line' : rw_} {Rd : tRd} {lens mkg qu rc card filled tk : rw_} (h : ChR i (works, waits, dev, c) L line w (wk, chd, jmp, dev', r) line' Rd lens mkg qu rc card filled tk) : works = wk ∧ waits = w ∧ dev = dev' := by
  obtain ⟨c1, c2, c3, c4, c5, c6, c7, c8, c9, c10⟩ := c
  obtain ⟨r1, r2, r3, r4, r5, r6, r7, r8, r9, r10, r11⟩ := r
  obtain ⟨l1, l2⟩ := L
  exact ⟨h.1.1, h.1.2.1, h.1.2.2.1⟩
theorem ChR_wait {i : Nat} {waits : Bool} {dev : Int32} {c : Int32 × Int32 × Bool × Bool × Bool × Int32 × Int32 × Int32 × Int32 × Int32} {works : Bool} {L : Int32 × Int32} {line : rw_} {w : Bool} {R : tR} {line' : rw_} {Rd : tRd} {lens mkg qu rc card filled tk : rw_} (h : ChR i (works, waits, dev, c) L line w R line' Rd lens mkg qu rc card filled tk) (z : Bool) : ChR i (works, z, dev, c) L line z R line' Rd lens mkg qu rc card filled tk := by
  obtain ⟨wk, chd, jmp, dev, okey, chn, cmd, plc, flg, cnt, rdy, tsz, rd, lns, onl⟩ := R
  obtain ⟨c1, c2, c3, c4, c5, c6, c7, c8, c9, c10⟩ := c
  obtain ⟨l1, l2⟩ := L
  obtain ⟨made, front, wait, rlen, tkn⟩ := Rd
  obtain ⟨⟨h1, h2, h3, h4, h5, h6, h7, h8, h9⟩, hr⟩ := h
  exact ⟨⟨h1, rfl, h3, h4, h5, h6, h7, h8, h9⟩, R_rd_of (R_rd_to hr)⟩
def RCok (op : Int32) : Prop := ∀ (i : Nat) (x1 : Bool) (x2 x3 x4 opl : Int32) (rn sn a : Nat) (C : tCh) (L : Int32 × Int32) (line : rw_) (G B K : rw_) (a1 a2 a3 a4 : Int32) (e w : Bool) (s l : Int32) (R : tR) (line' : rw_) (Rd : tRd) (lens mkg qu rc card filled tk : rw_), rn < 16 → sn < 16 → a < 2 ^ 24 → Wf a1 a2 a3 a4 → (∀ i, rg (K i) 16) → ChR i C L line w R line' Rd lens mkg qu rc card filled tk →
  ∃ code C' G' T' B' o' b' reg' w' R', f_X3_doRsOrSi (x1, x2, x3, x4, op, nI (rn * 16 + sn), nI rn, nI sn, nI a, opl) C G (a1, a2, a3, a4) B K = (code, C', G', T', B') ∧ f_X8_doStored (a1, a2, a3, a4, e, w, s, l, 0, 0, R) (uB B) K G op (nI (rn * 16 + sn)) (nI a) = (o', b', reg') ∧ Res code G' T' B' K o' b' K reg' e w' s l R' ∧ ChR i C' L line w' R' line' Rd lens mkg qu rc card filled tk ∧ s_X8_doStored (a1, a2, a3, a4, e, w, s, l, 0, 0, R) (uB B) K G op (nI (rn * 16 + sn)) (nI a)
theorem rc_of {op : Int32} (h : RSok op) : RCok op := by
  intro i x1 x2 x3 x4 opl rn sn a C L line G B K a1 a2 a3 a4 e w s l R line' Rd lens mkg qu rc card filled tk hr hs ha hw hK hc
  obtain ⟨code, G', T', B', o', b', reg', h1, h2, h3, h4⟩ := h x1 x2 x3 x4 opl rn sn a C G B K a1 a2 a3 a4 e w s l R hr hs ha hw hK
  exact ⟨code, C, G', T', B', o', b', reg', w, R, h1, h2, h3, hc, h4⟩
theorem rc_157 : RCok 157 := by
  intro i x1 x2 x3 x4 opl rn sn a C L line G B K a1 a2 a3 a4 e w s l R line' Rd lens mkg qu rc card filled tk hr hs ha hw hK hc
  obtain ⟨works, waits, dev, c⟩ := C
  obtain ⟨wk, chd, jmp, dev', okey, chn, cmd, plc, flg, cnt, rdy, tsz, rd, lns, onl⟩ := R
  obtain ⟨q1, q2, q3⟩ := ChR_eq hc
  subst q1 q2 q3
  cases works with
  | true =>
    refine ⟨0, (true, waits, dev, c), G, (a1, a2, 2, a4), B, (a1, a2, 2, a4, e, waits, s, l, 0, 0, (true, chd, jmp, dev, okey, chn, cmd, plc, flg, cnt, rdy, tsz, rd, lns, onl)), uB B, G, waits, (true, chd, jmp, dev, okey, chn, cmd, plc, flg, cnt, rdy, tsz, rd, lns, onl), ?_, ?_, Res_ok (Wf_cc hw ⟨by decide, by decide⟩) hK, hc, ?_⟩
    · simp (decide := true) only [f_X3_doRsOrSi, f_X3_testChannel, f_X0_test, q_let, ↓reduceIte]
    · cases waits <;> simp (decide := true) only [f_X8_doStored, q_let, ↓reduceIte]
    · simp (decide := true) only [s_X8_doStored, q_let, ↓reduceIte]
  | false =>
    cases waits with
    | true =>
      refine ⟨0, (false, false, dev, c), G, (a1, a2, 1, a4), B, (a1, a2, 1, a4, e, false, s, l, 0, 0, (false, chd, jmp, dev, okey, chn, cmd, plc, flg, cnt, rdy, tsz, rd, lns, onl)), uB B, G, false, (false, chd, jmp, dev, okey, chn, cmd, plc, flg, cnt, rdy, tsz, rd, lns, onl), ?_, ?_, Res_ok (Wf_cc hw ⟨by decide, by decide⟩) hK, ChR_wait hc false, ?_⟩
      · simp (decide := true) only [f_X3_doRsOrSi, f_X3_testChannel, f_X0_test, q_let, ↓reduceIte]
      · simp (decide := true) only [f_X8_doStored, q_let, ↓reduceIte]
      · simp (decide := true) only [s_X8_doStored, q_let, ↓reduceIte]
    | false =>
      refine ⟨0, (false, false, dev, c), G, (a1, a2, 0, a4), B, (a1, a2, 0, a4, e, false, s, l, 0, 0, (false, chd, jmp, dev, okey, chn, cmd, plc, flg, cnt, rdy, tsz, rd, lns, onl)), uB B, G, false, (false, chd, jmp, dev, okey, chn, cmd, plc, flg, cnt, rdy, tsz, rd, lns, onl), ?_, ?_, Res_ok (Wf_cc hw ⟨by decide, by decide⟩) hK, hc, ?_⟩
      · simp (decide := true) only [f_X3_doRsOrSi, f_X3_testChannel, f_X0_test, q_let, ↓reduceIte]
      · simp (decide := true) only [f_X8_doStored, q_let, ↓reduceIte]
      · simp (decide := true) only [s_X8_doStored, q_let, ↓reduceIte]
/-- the reference's start -/
theorem begin_eq (B : rw_) (im : Nat) (him : im < 256) (a1 a2 a3 a4 : Int32) (e w : Bool) (s l f t : Int32) (wk chd jmp : Bool) (dev okey chn cmd plc flg cnt rdy tsz rd lns onl : Int32) :
    f_X8_begin (a1, a2, a3, a4, e, w, s, l, f, t, (wk, chd, jmp, dev, okey, chn, cmd, plc, flg, cnt, rdy, tsz, rd, lns, onl)) (uB B) (nI im) = (if im = 1 ∨ im = 2 then (if wk = true ∨ w = true then (a1, a2, 2, a4, e, w, s, l, f, t, (wk, chd, jmp, dev, okey, chn, cmd, plc, flg, cnt, rdy, tsz, rd, lns, onl)) else (a1, a2, 0, a4, e, w, s, l, f, t, (true, false, false, nI im, uB B 72 / (16 : Int32), f_X8_field (uB B) 73 3, 0, plc, flg, cnt, rdy, tsz, rd, lns, onl))) else (a1, a2, 3, a4, e, w, s, l, f, t, (wk, chd, jmp, dev, okey, chn, cmd, plc, flg, cnt, rdy, tsz, rd, lns, onl))) := by
  have e1 : nI im < (1 : Int32) ↔ im < 1 := nI_ltI (b := 1) (by omega) (by omega)
  have e2 : nI im ≤ (2 : Int32) ↔ im ≤ 2 := nI_leI (b := 2) (by omega) (by omega)
  unfold f_X8_begin q_let
  dsimp only
  by_cases c1 : im < 1
  · rw [if_pos (e1.mpr c1), if_neg (show ¬ (im = 1 ∨ im = 2) by omega)]
  · rw [if_neg (fun q => c1 (e1.mp q))]
    by_cases c2 : im ≤ 2
    · rw [if_pos (e2.mpr c2), if_pos (show im = 1 ∨ im = 2 by omega)]
      by_cases c3 : wk = true
      · rw [if_pos c3, if_pos (Or.inl c3)]
      · rw [if_neg c3]
        by_cases c4 : w = true
        · rw [if_pos c4, if_pos (Or.inr c4)]
        · rw [if_neg c4, if_neg (fun q => q.elim c3 c4)]
          rfl
    · rw [if_neg (fun q => c2 (e2.mp q)), if_neg (show ¬ (im = 1 ∨ im = 2) by omega)]
theorem start_eq (B : rw_) (im : Nat) (him : im < 256) (works waits : Bool) (dev key place : Int32) (has dch jmp : Bool) (addr flg cnt un ck : Int32) :
    f_X0_start (works, waits, dev, key, place, has, dch, jmp, addr, flg, cnt, un, ck) B (nI im) = (if im = 1 ∨ im = 2 then (if works = true ∨ waits = true then (2, (works, waits, dev, key, place, has, dch, jmp, addr, flg, cnt, un, ck)) else (0, (true, waits, nI im, uB B 72 / (16 : Int32), f_X8_field (uB B) 73 3, false, false, false, addr, flg, cnt, un, ck))) else (3, (works, waits, dev, key, place, has, dch, jmp, addr, flg, cnt, un, ck))) := by
  have e1 : nI im = (1 : Int32) ↔ im = 1 := nI_eq (b := 1) (by omega) (by omega)
  have e2 : nI im = (2 : Int32) ↔ im = 2 := nI_eq (b := 2) (by omega) (by omega)
  have k1 : ((f_X6_wordAt B 72).toUInt32 >>> ((28 : Int32).toUInt32 &&& Int32.toUInt32 31)).toInt32 = uB B 72 / (16 : Int32) := key28 B 72 (by omega)
  have k2 : f_X6_wordAt B 72 &&& (16777215 : Int32) = f_X8_field (uB B) 73 3 := word24 B 72 (by omega)
  unfold f_X0_start
  dsimp only
  rw [k1, k2]
  by_cases c1 : im = 1
  · rw [if_pos (e1.mpr c1), if_pos (Or.inl c1)]
    by_cases c3 : works = true
    · rw [if_pos c3, if_pos (Or.inl c3)]
    · rw [if_neg c3]
      by_cases c4 : waits = true
      · rw [if_pos c4, if_pos (Or.inr c4)]
      · rw [if_neg c4, if_neg (fun q => q.elim c3 c4)]
  · rw [if_neg (fun q => c1 (e1.mp q))]
    by_cases c2 : im = 2
    · rw [if_pos (e2.mpr c2), if_pos (Or.inr c2)]
      by_cases c3 : works = true
      · rw [if_pos c3, if_pos (Or.inl c3)]
      · rw [if_neg c3]
        by_cases c4 : waits = true
        · rw [if_pos c4, if_pos (Or.inr c4)]
        · rw [if_neg c4, if_neg (fun q => q.elim c3 c4)]
    · rw [if_neg (fun q => c2 (e2.mp q)), if_neg (fun q => q.elim c1 c2)]
theorem sbegin_ok (B : rw_) (o : tO) (p : Int32) : s_X8_begin o (uB B) p := by
  have : s_X8_field (uB B) 73 3 := s_field_ok (uB B) 73 3 (by omega)
  unfold s_X8_begin q_let
  exact ite_ok trivial (ite_ok (ite_ok trivial (ite_ok trivial this)) trivial)
theorem rc_156 : RCok 156 := by
  intro i x1 x2 x3 x4 opl rn sn a C L line G B K a1 a2 a3 a4 e w s l R line' Rd lens mkg qu rc card filled tk hr hs ha hw hK hc
  obtain ⟨works, waits, dev, key, place, has, dch, jm, addr, flg2, cnt2, un, ck⟩ := C
  obtain ⟨wk, chd, jmp, dev', okey, chn, cmd, plc, flg, cnt, rdy, tsz, rd, lns, onl⟩ := R
  obtain ⟨q1, q2, q3⟩ := ChR_eq hc
  subst q1 q2 q3
  obtain ⟨im, him⟩ : ∃ im, im = rn * 16 + sn := ⟨_, rfl⟩
  rw [← him]
  have hst := start_eq B im (by omega) works waits dev key place has dch jm addr flg2 cnt2 un ck
  have hbg := begin_eq B im (by omega) a1 a2 a3 a4 e waits s l 0 0 works chd jmp dev okey chn cmd plc flg cnt rdy tsz rd lns onl
  have hsb := sbegin_ok B (a1, a2, a3, a4, e, waits, s, l, 0, 0, (works, chd, jmp, dev, okey, chn, cmd, plc, flg, cnt, rdy, tsz, rd, lns, onl)) (nI im)
  have hss : s_X8_doStored (a1, a2, a3, a4, e, waits, s, l, 0, 0, (works, chd, jmp, dev, okey, chn, cmd, plc, flg, cnt, rdy, tsz, rd, lns, onl)) (uB B) K G 156 (nI im) (nI a) := by
    simp (decide := true) only [s_X8_doStored, q_let, ↓reduceIte, hsb]
  have hfc : ∀ (cc : Int32) (C' : tCh), f_X0_start (works, waits, dev, key, place, has, dch, jm, addr, flg2, cnt2, un, ck) B (nI im) = (cc, C') → f_X3_doRsOrSi (x1, x2, x3, x4, 156, nI im, nI rn, nI sn, nI a, opl) (works, waits, dev, key, place, has, dch, jm, addr, flg2, cnt2, un, ck) G (a1, a2, a3, a4) B K = (0, C', G, (a1, a2, cc, a4), B) := by
    intro cc C' h
    simp (decide := true) only [f_X3_doRsOrSi, f_X3_startChannel, q_let, ↓reduceIte, h]
  have hfm : ∀ o' : tO, f_X8_begin (a1, a2, a3, a4, e, waits, s, l, 0, 0, (works, chd, jmp, dev, okey, chn, cmd, plc, flg, cnt, rdy, tsz, rd, lns, onl)) (uB B) (nI im) = o' → f_X8_doStored (a1, a2, a3, a4, e, waits, s, l, 0, 0, (works, chd, jmp, dev, okey, chn, cmd, plc, flg, cnt, rdy, tsz, rd, lns, onl)) (uB B) K G 156 (nI im) (nI a) = (o', uB B, G) := by
    intro o' h
    simp (decide := true) only [f_X8_doStored, q_let, ↓reduceIte, h]
  by_cases c1 : im = 1 ∨ im = 2
  · rw [if_pos c1] at hst hbg
    by_cases c2 : works = true ∨ waits = true
    · rw [if_pos c2] at hst hbg
      exact ⟨0, _, G, _, B, _, uB B, G, waits, (works, chd, jmp, dev, okey, chn, cmd, plc, flg, cnt, rdy, tsz, rd, lns, onl), hfc _ _ hst, hfm _ hbg, Res_ok (Wf_cc hw ⟨by decide, by decide⟩) hK, hc, hss⟩
    · rw [if_neg c2] at hst hbg
      refine ⟨0, _, G, _, B, _, uB B, G, waits, _, hfc _ _ hst, hfm _ hbg, Res_ok (Wf_cc hw ⟨by decide, by decide⟩) hK, ?_, hss⟩
      have h72 := nB_lt B 72
      have h73 := nB_lt B 73
      have h74 := nB_lt B (73 + 1)
      have h75 := nB_lt B (73 + 2)
      have r1 : rg (uB B 72 / (16 : Int32)) 16 := by
        rw [uB_nB, show nI (nB B 72) / (16 : Int32) = nI (nB B 72 / 16) from pk_div (d := 16) (by omega) (by omega) (by omega)]
        exact nI_rg (by omega) (by omega)
      have r2 : rg (f_X8_field (uB B) 73 3) 16777216 := by
        rw [show f_X8_field (uB B) 73 3 = nI ((nB B 73 * 256 + nB B (73 + 1)) * 256 + nB B (73 + 2)) from field3_nI B (a := 73) (by omega)]
        exact nI_rg (by omega) (by omega)
      obtain ⟨l1, l2⟩ := L
      obtain ⟨made, front, wait, rlen, tkn⟩ := Rd
      obtain ⟨⟨h1, h2, h3, h4, h5, h6, h7, h8, h9⟩, hrr⟩ := hc
      refine ⟨⟨rfl, rfl, rfl, h4, h5, h6, h7, h8, fun _ => ?_⟩, R_rd_of (R_rd_to hrr)⟩
      refine ⟨?_, rfl, r1, rfl, r2, rfl, ⟨fun q => (by cases q), fun q => absurd rfl q⟩, fun _ => ⟨rfl, fun q => (by cases q)⟩, fun q => (by cases q)⟩
      rcases c1 with z | z
      · rw [z]; exact Or.inl rfl
      · rw [z]; exact Or.inr rfl
  · rw [if_neg c1] at hst hbg
    exact ⟨0, _, G, _, B, _, uB B, G, waits, (works, chd, jmp, dev, okey, chn, cmd, plc, flg, cnt, rdy, tsz, rd, lns, onl), hfc _ _ hst, hfm _ hbg, Res_ok (Wf_cc hw ⟨by decide, by decide⟩) hK, hc, hss⟩
