/-! one step, both sides -/
theorem exec_rel (i : Nat) (e : Bool) (s pin l y5 y6 y7 y8 y9 y10 : Int32) (C : tCh) (L : Int32 × Int32) (line : rw_) (F : Bool) (Fd G : rw_) (Z : Bool) (Zd : rw_) (a1 a2 a3 a4 : Int32) (B K one two : rw_) (w : Bool) (R : tR) (line' : rw_) (Rd : tRd) (lens mkg qu rc card filled tk : rw_) (hw : Wf a1 a2 a3 a4) (hK : ∀ i, rg (K i) 16) (hc : ChR i C L line w R line' Rd lens mkg qu rc card filled tk) :
    ∃ (code z5 z6 z7 z8 z9 z10 : Int32) (C' : tCh) (F' : Bool) (Fd' G' : rw_) (Z' : Bool) (Zd' : rw_) (T' : tT) (B' K' : rw_) (o' : tO) (b' keys' one' reg' two' : rw_) (w' : Bool) (R' : tR), tailC (e, s, pin, l, y5, y6, y7, y8, y9, y10) C F Fd G Z Zd (a1, a2, a3, a4) B K = finC code (e, s, pin, l, z5, z6, z7, z8, z9, z10) C' F' Fd' G' Z' Zd' T' B' K' ∧ f_X8_instruct (a1, a2, a3, a4, e, w, s, l, 0, 0, R) (uB B) K one G two = (o', b', keys', one', reg', two') ∧ Res code G' T' B' K' o' b' keys' reg' e w' s l R' ∧ ChR i C' L line w' R' line' Rd lens mkg qu rc card filled tk ∧ s_X8_instruct (a1, a2, a3, a4, e, w, s, l, 0, 0, R) (uB B) K one G two := by
  obtain ⟨A, hA, rfl⟩ := rg_nI (n := 65536) hw.2.2.2 (by omega)
  obtain ⟨n, hn⟩ : ∃ n, n = opN B A := ⟨_, rfl⟩
  obtain ⟨ln, hl⟩ : ∃ ln, ln = lnN n := ⟨_, rfl⟩
  obtain ⟨im, him⟩ : ∃ im, im = nB B (A + 1) := ⟨_, rfl⟩
  have hn2 : n < 256 := by rw [hn]; exact opN_lt B A
  have hi2 : im < 256 := by rw [him]; exact nB_lt B (A + 1)
  have hlb := lnN_b n
  rw [← hl] at hlb
  have hw' : Wf a1 a2 a3 (nI ((A + ln) % 65536)) := ⟨hw.1, hw.2.1, hw.2.2.1, nI_rg (by omega) (by omega)⟩
  have hal := al4 (a1 := a1) (a2 := a2) (a3 := a3) (a4 := nI ((A + ln) % 65536)) hw.1
  have hbad : ∀ c : Int32, ¬ c ≤ 0 → ((A % 2 = 1 ∧ c = 6) ∨ (A % 2 = 0 ∧ ¬ A + ln ≤ 2048 ∧ c = 5) ∨ (A % 2 = 0 ∧ A + ln ≤ 2048 ∧ f_X8_kindOf (nI n) = 2 ∧ f_X5_allows (a1, a2, a3, nI ((A + ln) % 65536)) 4 = true ∧ c = 2)) → ∃ (code z5 z6 z7 z8 z9 z10 : Int32) (C' : tCh) (F' : Bool) (Fd' G' : rw_) (Z' : Bool) (Zd' : rw_) (T' : tT) (B' K' : rw_) (o' : tO) (b' keys' one' reg' two' : rw_) (w' : Bool) (R' : tR), tailC (e, s, pin, l, y5, y6, y7, y8, y9, y10) C F Fd G Z Zd (a1, a2, a3, nI A) B K = finC code (e, s, pin, l, z5, z6, z7, z8, z9, z10) C' F' Fd' G' Z' Zd' T' B' K' ∧ f_X8_instruct (a1, a2, a3, nI A, e, w, s, l, 0, 0, R) (uB B) K one G two = (o', b', keys', one', reg', two') ∧ Res code G' T' B' K' o' b' keys' reg' e w' s l R' ∧ ChR i C' L line w' R' line' Rd lens mkg qu rc card filled tk ∧ s_X8_instruct (a1, a2, a3, nI A, e, w, s, l, 0, 0, R) (uB B) K one G two := by
    intro c hc0 h
    have hf := fet_bad e s pin l y5 y6 y7 y8 y9 y10 G a1 a2 a3 A hA B hw.1 n ln hn hl c h
    obtain ⟨g1, g2⟩ := ins_bad B K one G two a1 a2 a3 A hA e w s l R n ln im hn hl him c hc0 (by
      rcases h with h | h | ⟨h1, h2, h3, h4, h5⟩
      · exact Or.inl h
      · exact Or.inr (Or.inl h)
      · exact Or.inr (Or.inr (Or.inr ⟨h1, h2, h3, hal.mp h4, h5⟩)))
    exact ⟨c, nI n, y6, y7, y8, y9, y10, C, F, Fd, G, Z, Zd, (a1, a2, a3, nI ((A + ln) % 65536)), B, K, (a1, a2, a3, nI ((A + ln) % 65536), e, w, s, l, c, 0, R), uB B, K, one, G, two, w, R, tail_bad (fun q => hc0 (by rw [q]; decide)) hf, g1, Res_bad hc0 hw' hK, hc, g2⟩
  by_cases h1 : A % 2 = 1
  · exact hbad 6 (by decide) (Or.inl ⟨h1, rfl⟩)
  have h1' : A % 2 = 0 := by omega
  by_cases h2 : A + ln ≤ 2048
  rotate_left
  · exact hbad 5 (by decide) (Or.inr (Or.inl ⟨h1', h2, rfl⟩))
  by_cases h3 : f_X8_kindOf (nI n) = 2 ∧ f_X5_allows (a1, a2, a3, nI ((A + ln) % 65536)) 4 = true
  · exact hbad 2 (by decide) (Or.inr (Or.inr ⟨h1', h2, h3.1, h3.2, rfl⟩))
  have hf := fet_ok e s pin l y5 y6 y7 y8 y9 y10 G a1 a2 a3 A hA B hw.1 n ln im hn hl him h1' h2 h3
  have h4 : ¬ (f_X8_kindOf (nI n) = 2 ∧ a1 / (4 : Int32) - a1 / (4 : Int32) / (2 : Int32) * (2 : Int32) = 1) := fun q => h3 ⟨q.1, hal.mpr q.2⟩
  have h6 : nI n >>> ((6 : Int32) &&& 31) = nI (n / 64) := pk_shrN (by omega) _ 6 (by decide)
  have him3 : im / 16 * 16 + im % 16 = im := by omega
  by_cases k0 : f_X8_kindOf (nI n) = 0
  · obtain ⟨g1, g2⟩ := ins_bad B K one G two a1 a2 a3 A hA e w s l R n ln im hn hl him 1 (by decide) (Or.inr (Or.inr (Or.inl ⟨h1', h2, k0, rfl⟩)))
    by_cases c1 : n < 64
    · have hno := noRR e s pin l n hn2 (nI im) (nI (im / 16)) (nI (im % 16)) (f_X3_operandAt G B (nI (A + 2)) (if n / 64 = 1 then nI (im % 16) else 0)) (f_X3_operandAt G B (nI (A + 4)) 0) G (a1, a2, a3, nI ((A + ln) % 65536)) B K (fun q => (kRR n c1).mpr q k0)
      exact ⟨1, _, _, _, _, _, _, C, F, Fd, G, Z, Zd, (a1, a2, a3, nI ((A + ln) % 65536)), B, K, (a1, a2, a3, nI ((A + ln) % 65536), e, w, s, l, 1, 0, R), uB B, K, one, G, two, w, R, tail_rr hf (by dsimp only; rw [h6, show n / 64 = 0 by omega]; rfl) hno, g1, Res_bad (by decide) hw' hK, hc, g2⟩
    · by_cases c2 : n < 128
      · have hno := noRX e s pin l n hn2 (nI im) (nI (im / 16)) (nI (im % 16)) (f_X3_operandAt G B (nI (A + 2)) (if n / 64 = 1 then nI (im % 16) else 0)) (f_X3_operandAt G B (nI (A + 4)) 0) F Fd G (a1, a2, a3, nI ((A + ln) % 65536)) B K (fun q => (kRX n c2 (by omega)).mpr q k0)
        exact ⟨1, _, _, _, _, _, _, C, F, Fd, G, Z, Zd, (a1, a2, a3, nI ((A + ln) % 65536)), B, K, (a1, a2, a3, nI ((A + ln) % 65536), e, w, s, l, 1, 0, R), uB B, K, one, G, two, w, R, tail_rx hf (by dsimp only; rw [h6, show n / 64 = 1 by omega]; rfl) hno, g1, Res_bad (by decide) hw' hK, hc, g2⟩
      · by_cases c3 : n < 192
        · have hno := noRS e s pin l n hn2 (nI im) (nI (im / 16)) (nI (im % 16)) (f_X3_operandAt G B (nI (A + 2)) (if n / 64 = 1 then nI (im % 16) else 0)) (f_X3_operandAt G B (nI (A + 4)) 0) C G (a1, a2, a3, nI ((A + ln) % 65536)) B K (fun q => (kRS n c3 (by omega)).mpr q k0)
          exact ⟨1, _, _, _, _, _, _, C, F, Fd, G, Z, Zd, (a1, a2, a3, nI ((A + ln) % 65536)), B, K, (a1, a2, a3, nI ((A + ln) % 65536), e, w, s, l, 1, 0, R), uB B, K, one, G, two, w, R, tail_rs hf (by dsimp only; rw [h6, show n / 64 = 2 by omega]; rfl) hno, g1, Res_bad (by decide) hw' hK, hc, g2⟩
        · have hno := noSS e s pin l n hn2 (nI im) (nI (im / 16)) (nI (im % 16)) (f_X3_operandAt G B (nI (A + 2)) (if n / 64 = 1 then nI (im % 16) else 0)) (f_X3_operandAt G B (nI (A + 4)) 0) F Fd Z Zd (a1, a2, a3, nI ((A + ln) % 65536)) B K (fun q => (kSS n hn2 (by omega)).mpr q k0)
          exact ⟨1, _, _, _, _, _, _, C, F, Fd, G, Z, Zd, (a1, a2, a3, nI ((A + ln) % 65536)), B, K, (a1, a2, a3, nI ((A + ln) % 65536), e, w, s, l, 1, 0, R), uB B, K, one, G, two, w, R, tail_ss hf (by dsimp only; rw [h6, show n / 64 = 3 by omega]; rfl) hno, g1, Res_bad (by decide) hw' hK, hc, g2⟩
  by_cases c1 : n < 64
  · obtain ⟨code, G', T', B', K', o', b', keys', reg', r1, r2, r3, r4⟩ := okRR n ((kRR n c1).mp k0) e s pin l (f_X3_operandAt G B (nI (A + 2)) (if n / 64 = 1 then nI (im % 16) else 0)) (f_X3_operandAt G B (nI (A + 4)) 0) (im / 16) (im % 16) G B K a1 a2 a3 (nI ((A + ln) % 65536)) e w s l R (by omega) (by omega) hw' hK
    rw [him3] at r1
    obtain ⟨g1, g2⟩ := ins_rr B K one G two a1 a2 a3 A hA e w s l R n ln im hn hl him c1 h1' h2 k0 h4 o' b' keys' reg' r2 r4
    exact ⟨code, _, _, _, _, _, _, C, F, Fd, G', Z, Zd, T', B', K', o', b', keys', one, reg', two, w, R, tail_rr hf (by dsimp only; rw [h6, show n / 64 = 0 by omega]; rfl) r1, g1, r3, hc, g2⟩
  have hln4 : 4 ≤ ln := by
    rw [hl]; unfold lnN; rw [if_neg c1]; split <;> omega
  by_cases c2 : n < 128
  · obtain ⟨a, ha, ea, eb, ec⟩ := eff_eq G B (A + 2) (im % 16) (by omega) (by omega)
    have hpl : (if n / 64 = 1 then nI (im % 16) else 0) = nI (im % 16) := if_pos (by omega)
    rw [hpl, ea] at hf
    obtain ⟨code, F', Fd', G', T', B', o', b', one', reg', r1, r2, r3, r4⟩ := okRX n ((kRX n c2 (by omega)).mp k0) e s pin l (nI im) (nI (im % 16)) (f_X3_operandAt G B (nI (A + 4)) 0) (im / 16) a F Fd G B K one a1 a2 a3 (nI ((A + ln) % 65536)) e w s l R (by omega) ha hw' hK
    obtain ⟨g1, g2⟩ := ins_rx B K one G two a1 a2 a3 A hA e w s l R n ln im hn hl him ⟨by omega, c2⟩ h1' h2 k0 h4 (nI a) eb ec o' b' one' reg' r2 r4
    exact ⟨code, _, _, _, _, _, _, C, F', Fd', G', Z, Zd, T', B', K, o', b', K, one', reg', two, w, R, tail_rx hf (by dsimp only; rw [h6, show n / 64 = 1 by omega]; rfl) r1, g1, r3, hc, g2⟩
  have hpl : (if n / 64 = 1 then nI (im % 16) else 0) = (0 : Int32) := if_neg (by omega)
  obtain ⟨a, ha, ea, eb, ec⟩ := eff_eq G B (A + 2) 0 (by omega) (by omega)
  rw [nI_0] at ea eb ec
  rw [hpl, ea] at hf
  by_cases c3 : n < 192
  · obtain ⟨code, C', G', T', B', o', b', reg', w', R', r1, r2, r3, r5, r4⟩ := okRS n ((kRS n c3 (by omega)).mp k0) i e s pin l (f_X3_operandAt G B (nI (A + 4)) 0) (im / 16) (im % 16) a C L line G B K a1 a2 a3 (nI ((A + ln) % 65536)) e w s l R line' Rd lens mkg qu rc card filled tk (by omega) (by omega) ha hw' hK hc
    rw [him3] at r1 r2 r4
    obtain ⟨g1, g2⟩ := ins_rs B K one G two a1 a2 a3 A hA e w s l R n ln im hn hl him ⟨by omega, c3⟩ h1' h2 k0 h4 (nI a) eb ec o' b' reg' r2 r4
    exact ⟨code, _, _, _, _, _, _, C', F, Fd, G', Z, Zd, T', B', K, o', b', K, one, reg', two, w', R', tail_rs hf (by dsimp only; rw [h6, show n / 64 = 2 by omega]; rfl) r1, g1, r3, r5, g2⟩
  have hln6 : ln = 6 := by
    rw [hl]; unfold lnN; rw [if_neg c1, if_neg c3]
  obtain ⟨q, hq, qa, qb, qc⟩ := eff_eq G B (A + 4) 0 (by omega) (by omega)
  rw [nI_0] at qa qb qc
  rw [qa] at hf
  obtain ⟨code, F', Fd', Z', Zd', T', B', o', b', one', two', r1, r2, r3, r4⟩ := okSS n ((kSS n hn2 (by omega)).mp k0) e s pin l (im / 16) (im % 16) a q F Fd Z Zd G B K one two a1 a2 a3 (nI ((A + ln) % 65536)) e w s l R (by omega) (by omega) ha hq hw' hK
  rw [him3] at r1 r2 r4
  obtain ⟨g1, g2⟩ := ins_ss B K one G two a1 a2 a3 A hA e w s l R n ln im hn hl him (by omega) h1' h2 k0 h4 (nI a) eb ec (nI q) qb qc o' b' one' two' r2 r4
  exact ⟨code, _, _, _, _, _, _, C, F', Fd', G, Z', Zd', T', B', K, o', b', K, one', G, two', w, R, tail_ss hf (by dsimp only; rw [h6, show n / 64 = 3 by omega]; rfl) r1, g1, r3, hc, g2⟩
/-- the end of a step -/
def finM (o : tO) (b keys one reg two : rw_) : Int32 × tO × rw_ × rw_ × rw_ × rw_ × rw_ := q_let (if o.2.2.2.2.2.2.2.2.1 ≤ 0 then o.2.2.2.2.2.2.2.2.2.1 else o.2.2.2.2.2.2.2.2.1) fun y => if y = 0 then (0, o, b, keys, one, reg, two) else q_let (f_X8_interrupt (o.1, o.2.1, o.2.2.1, o.2.2.2.1, o.2.2.2.2.1, o.2.2.2.2.2.1, o.2.2.2.2.2.2.1, y, o.2.2.2.2.2.2.2.2.1, o.2.2.2.2.2.2.2.2.2.1, o.2.2.2.2.2.2.2.2.2.2) b 40 104 y) fun w => (1, w.1, w.2, keys, one, reg, two)
def sfM (o : tO) (b : rw_) : Prop := q_let (if o.2.2.2.2.2.2.2.2.1 ≤ 0 then o.2.2.2.2.2.2.2.2.2.1 else o.2.2.2.2.2.2.2.2.1) fun y => if y = 0 then True else s_X8_interrupt (o.1, o.2.1, o.2.2.1, o.2.2.2.1, o.2.2.2.2.1, o.2.2.2.2.2.1, o.2.2.2.2.2.2.1, y, o.2.2.2.2.2.2.2.2.1, o.2.2.2.2.2.2.2.2.2.1, o.2.2.2.2.2.2.2.2.2.2) b 40 104 y
theorem fin_rel {code : Int32} {e : Bool} {s l : Int32} {G : rw_} {T : tT} {B K : rw_} {o : tO} {b keys reg : rw_} {w : Bool} {R : tR} (h : Res code G T B K o b keys reg e w s l R) (pin z5 z6 z7 z8 z9 z10 : Int32) (C : tCh) (F : Bool) (Fd : rw_) (Z : Bool) (Zd one two : rw_) :
    ∃ (n l' b1 b2 b3 b4 f t : Int32) (B' : rw_), finC code (e, s, pin, l, z5, z6, z7, z8, z9, z10) C F Fd G Z Zd T B K = ((e, s, pin + n, l', z5, z6, z7, z8, z9, z10), C, F, Fd, G, Z, Zd, (b1, b2, b3, b4), B', K) ∧ finM o b keys one reg two = (n, (b1, b2, b3, b4, e, w, s, l', f, t, R), uB B', K, one, G, two) ∧ Wf b1 b2 b3 b4 ∧ (∀ i, rg (K i) 16) ∧ sfM o b := by
  obtain ⟨b1, b2, b3, b4, f, t, rfl, rfl, hw, rfl, rfl, hK, rfl, hcode⟩ := h
  unfold finC finM sfM q_let
  dsimp only
  rw [hcode]
  by_cases c : code = 0
  · rw [if_pos c, if_pos c, if_pos c]
    exact ⟨0, l, b1, b2, b3, b4, f, t, B, by rw [Int32.add_zero], rfl, hw, hK, trivial⟩
  · obtain ⟨c1, c2, c3, c4, B', i1, i2, i3, i4⟩ := intr_eq B 40 104 (by omega) (by omega) code b1 b2 b3 b4 e w s code f t R hw
    rw [show nI 40 = (40 : Int32) from rfl, show nI 104 = (104 : Int32) from rfl] at i1 i2 i4
    rw [if_neg c, if_neg c, if_neg c, i1, i2]
    exact ⟨1, code, c1, c2, c3, c4, f, t, B', rfl, rfl, i3, hK, i4⟩
/-- the reference's step, by ways -/
theorem ms_1 (a1 a2 a3 a4 : Int32) (w : Bool) (s l f t : Int32) (R : tR) (b keys one reg two : rw_) (h : a1 - a1 / (2 : Int32) * (2 : Int32) = 1) (o' : tO) (b' : rw_) (hi : f_X8_interrupt (a1, a2, a3, a4, false, w, s + (1 : Int32), l, f, t, R) b 24 88 128 = (o', b')) (hs : s_X8_interrupt (a1, a2, a3, a4, false, w, s + (1 : Int32), l, f, t, R) b 24 88 128) :
    f_X8_makeStep (a1, a2, a3, a4, true, w, s, l, f, t, R) b keys one reg two = (0, o', b', keys, one, reg, two) ∧ s_X8_makeStep (a1, a2, a3, a4, true, w, s, l, f, t, R) b keys one reg two := by
  obtain ⟨wk, chd, jmp, dev, okey, chn, cmd, plc, flg, cnt, rdy, tsz, rd, lns, onl⟩ := R
  unfold f_X8_makeStep s_X8_makeStep q_let
  dsimp only
  rw [if_pos rfl, if_pos rfl, if_pos h, if_pos h, hi]
  exact ⟨rfl, hs⟩
theorem ms_2 (a1 a2 a3 a4 : Int32) (e : Bool) (s l f t : Int32) (wk chd jmp : Bool) (dev : Int32) (r : Int32 × Int32 × Int32 × Int32 × Int32 × Int32 × Int32 × Int32 × Int32 × Int32 × Int32) (b keys one reg two : rw_) (h1 : ¬ (e = true ∧ a1 - a1 / (2 : Int32) * (2 : Int32) = 1)) (h2 : a1 / (2 : Int32) - a1 / (2 : Int32) / (2 : Int32) * (2 : Int32) = 1) (o' : tO) (b' : rw_) (hi : f_X8_interrupt (a1, a2, a3, a4, e, false, s + (1 : Int32), l, f, t, (wk, chd, jmp, dev, r)) b 56 120 dev = (o', b')) (hs : s_X8_interrupt (a1, a2, a3, a4, e, false, s + (1 : Int32), l, f, t, (wk, chd, jmp, dev, r)) b 56 120 dev) :
    f_X8_makeStep (a1, a2, a3, a4, e, true, s, l, f, t, (wk, chd, jmp, dev, r)) b keys one reg two = (0, o', b', keys, one, reg, two) ∧ s_X8_makeStep (a1, a2, a3, a4, e, true, s, l, f, t, (wk, chd, jmp, dev, r)) b keys one reg two := by
  obtain ⟨okey, chn, cmd, plc, flg, cnt, rdy, tsz, rd, lns, onl⟩ := r
  unfold f_X8_makeStep s_X8_makeStep q_let
  dsimp only
  by_cases c : e = true
  · have c2 : ¬ a1 - a1 / (2 : Int32) * (2 : Int32) = 1 := fun q => h1 ⟨c, q⟩
    refine ⟨?_, ?_⟩
    · rw [if_pos (α := Int32 × tO × rw_ × rw_ × rw_ × rw_ × rw_) c, if_neg c2, if_pos rfl, if_pos h2, hi]
    · rw [if_pos (α := Prop) c, if_neg c2, if_pos rfl, if_pos h2]
      exact hs
  · refine ⟨?_, ?_⟩
    · rw [if_neg (α := Int32 × tO × rw_ × rw_ × rw_ × rw_ × rw_) c, if_pos rfl, if_pos h2, hi]
    · rw [if_neg (α := Prop) c, if_pos rfl, if_pos h2]
      exact hs
theorem ms_3 (a1 a2 a3 a4 : Int32) (e w : Bool) (s l f t : Int32) (R : tR) (B keys one reg two : rw_) (h1 : ¬ (e = true ∧ a1 - a1 / (2 : Int32) * (2 : Int32) = 1)) (h2 : ¬ (w = true ∧ a1 / (2 : Int32) - a1 / (2 : Int32) / (2 : Int32) * (2 : Int32) = 1)) (v : Int32) (hv : v = f_X8_field (uB B) 80 4 - (1 : Int32)) (e' : Bool) (he : e' = if e = true then true else (if v = -1 then true else false)) (b1 : rw_) (hb : f_X8_put (uB B) 80 v 4 = b1) (o' : tO) (b' keys' one' reg' two' : rw_) (hi : f_X8_instruct (a1, a2, a3, a4, e', w, s + (1 : Int32), l, 0, 0, R) b1 keys one reg two = (o', b', keys', one', reg', two')) (hs : s_X8_instruct (a1, a2, a3, a4, e', w, s + (1 : Int32), l, 0, 0, R) b1 keys one reg two) (hf : sfM o' b') :
    f_X8_makeStep (a1, a2, a3, a4, e, w, s, l, f, t, R) (uB B) keys one reg two = finM o' b' keys' one' reg' two' ∧ s_X8_makeStep (a1, a2, a3, a4, e, w, s, l, f, t, R) (uB B) keys one reg two := by
  obtain ⟨t1, t2, t3, t4⟩ := timer_eq B
  obtain ⟨wk, chd, jmp, dev, okey, chn, cmd, plc, flg, cnt, rdy, tsz, rd, lns, onl⟩ := R
  have key : ∀ (x : Int32 × tO × rw_ × rw_ × rw_ × rw_ × rw_) (p : Prop) (y z : Int32 × tO × rw_ × rw_ × rw_ × rw_ × rw_) (py pz : Prop), (if e = true then (if a1 - a1 / (2 : Int32) * (2 : Int32) = 1 then y else (if w = true then (if a1 / (2 : Int32) - a1 / (2 : Int32) / (2 : Int32) * (2 : Int32) = 1 then z else x) else x)) else (if w = true then (if a1 / (2 : Int32) - a1 / (2 : Int32) / (2 : Int32) * (2 : Int32) = 1 then z else x) else x)) = x ∧ (p → (if e = true then (if a1 - a1 / (2 : Int32) * (2 : Int32) = 1 then py else (if w = true then (if a1 / (2 : Int32) - a1 / (2 : Int32) / (2 : Int32) * (2 : Int32) = 1 then pz else p) else p)) else (if w = true then (if a1 / (2 : Int32) - a1 / (2 : Int32) / (2 : Int32) * (2 : Int32) = 1 then pz else p) else p))) := by
    intro x p y z py pz
    have hz : (if w = true then (if a1 / (2 : Int32) - a1 / (2 : Int32) / (2 : Int32) * (2 : Int32) = 1 then z else x) else x) = x := by
      by_cases c : w = true
      · rw [if_pos c, if_neg (fun q => h2 ⟨c, q⟩)]
      · rw [if_neg c]
    have hp : (if w = true then (if a1 / (2 : Int32) - a1 / (2 : Int32) / (2 : Int32) * (2 : Int32) = 1 then pz else p) else p) = p := by
      by_cases c : w = true
      · rw [if_pos c, if_neg (fun q => h2 ⟨c, q⟩)]
      · rw [if_neg c]
    rw [hz, hp]
    by_cases c : e = true
    · have c2 : ¬ a1 - a1 / (2 : Int32) * (2 : Int32) = 1 := fun q => h1 ⟨c, q⟩
      rw [if_pos c, if_pos c, if_neg c2, if_neg c2]
      exact ⟨rfl, id⟩
    · rw [if_neg c, if_neg c]
      exact ⟨rfl, id⟩
  unfold f_X8_makeStep s_X8_makeStep q_let
  dsimp only
  rw [← hv, hb, ← he, hi]
  dsimp only
  refine ⟨((key _ True _ _ True True).1).trans ?_, (key (0, o', b', keys', one', reg', two') _ (0, o', b', keys', one', reg', two') (0, o', b', keys', one', reg', two') _ _).2 ⟨t3, t4 v, hs, ?_⟩⟩
  · rfl
  · exact hf
