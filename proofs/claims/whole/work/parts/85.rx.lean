/-! the instructions of four bytes with an index -/
theorem goodS (K : rw_) (a n m k : Nat) (pn pm : Int32) (hpn : pn = nI n) (hpm : pm = nI m) (ha : a < 2 ^ 24) (hn1 : 1 ≤ n) (hn : n ≤ 256) (hm : m = 2 ^ k) (hk : k ≤ 3) (a1 a2 a3 a4 : Int32) (e w : Bool) (s l t : Int32) (R : tR) :
    ((f_X3_storeFault (a1, a2, a3, a4) K (nI a) pn pm = 0 ∧ f_X8_good (a1, a2, a3, a4, e, w, s, l, 0, t, R) K (nI a) pn pm true = (true, (a1, a2, a3, a4, e, w, s, l, 0, t, R)) ∧ a % m = 0 ∧ a + n ≤ 2048) ∨
    (∃ c, ¬ c = 0 ∧ ¬ c ≤ 0 ∧ f_X3_storeFault (a1, a2, a3, a4) K (nI a) pn pm = c ∧ f_X8_good (a1, a2, a3, a4, e, w, s, l, 0, t, R) K (nI a) pn pm true = (false, (a1, a2, a3, a4, e, w, s, l, c, t, R)))) ∧ s_X8_good (a1, a2, a3, a4, e, w, s, l, 0, t, R) K (nI a) pn pm true := by
  subst hpn hpm
  obtain ⟨g1, g2, g3⟩ := good_eq K a n m k ha hn1 hn hm hk true a1 a2 a3 a4 e w s l t R
  have hf : fl true (a1, a2, a3, a4) K (nI a) (nI n) (nI m) = f_X3_storeFault (a1, a2, a3, a4) K (nI a) (nI n) (nI m) := if_pos rfl
  rw [hf] at g1 g2
  refine ⟨?_, g3⟩
  by_cases c : f_X3_storeFault (a1, a2, a3, a4) K (nI a) (nI n) (nI m) = 0
  · exact Or.inl ⟨c, g1 c⟩
  · exact Or.inr ⟨_, c, (g2 _ rfl c).2, rfl, (g2 _ rfl c).1⟩
theorem goodR (K : rw_) (a n m k : Nat) (pn pm : Int32) (hpn : pn = nI n) (hpm : pm = nI m) (ha : a < 2 ^ 24) (hn1 : 1 ≤ n) (hn : n ≤ 256) (hm : m = 2 ^ k) (hk : k ≤ 3) (a1 a2 a3 a4 : Int32) (e w : Bool) (s l t : Int32) (R : tR) :
    ((f_X3_readFault (nI a) pn pm = 0 ∧ f_X8_good (a1, a2, a3, a4, e, w, s, l, 0, t, R) K (nI a) pn pm false = (true, (a1, a2, a3, a4, e, w, s, l, 0, t, R)) ∧ a % m = 0 ∧ a + n ≤ 2048) ∨
    (∃ c, ¬ c = 0 ∧ ¬ c ≤ 0 ∧ f_X3_readFault (nI a) pn pm = c ∧ f_X8_good (a1, a2, a3, a4, e, w, s, l, 0, t, R) K (nI a) pn pm false = (false, (a1, a2, a3, a4, e, w, s, l, c, t, R)))) ∧ s_X8_good (a1, a2, a3, a4, e, w, s, l, 0, t, R) K (nI a) pn pm false := by
  subst hpn hpm
  obtain ⟨g1, g2, g3⟩ := good_eq K a n m k ha hn1 hn hm hk false a1 a2 a3 a4 e w s l t R
  have hf : fl false (a1, a2, a3, a4) K (nI a) (nI n) (nI m) = f_X3_readFault (nI a) (nI n) (nI m) := if_neg (by decide)
  rw [hf] at g1 g2
  refine ⟨?_, g3⟩
  by_cases c : f_X3_readFault (nI a) (nI n) (nI m) = 0
  · exact Or.inl ⟨c, g1 c⟩
  · exact Or.inr ⟨_, c, (g2 _ rfl c).2, rfl, (g2 _ rfl c).1⟩
theorem short_eq (h : Nat) (hh : h < 65536) : (nI h).toInt16.toInt32 = f_X8_signed (nI h) := by
  unfold f_X8_signed
  have e1 : nI h ≤ (32767 : Int32) ↔ h ≤ 32767 := nI_leI (b := 32767) (by omega) (by omega)
  have e2 := lg_i2s_toInt (nI h)
  rw [nI_toInt (by omega), Int.bmod_def] at e2
  by_cases c : h ≤ 32767
  · rw [if_pos (e1.mpr c), q_eq, e2, nI_toInt (by omega), if_pos (by omega)]
    omega
  · rw [if_neg (fun q => c (e1.mp q)), q_eq, e2, if_neg (by omega), q_subI (by rw [nI_toInt (by omega), show (65536 : Int32).toInt = 65536 by decide]; omega) (by rw [nI_toInt (by omega), show (65536 : Int32).toInt = 65536 by decide]; omega), nI_toInt (by omega), show (65536 : Int32).toInt = 65536 by decide]
    omega
def RXok (op : Int32) : Prop := ∀ (x1 : Bool) (x2 x3 x4 imm sx opl : Int32) (rn a : Nat) (F : Bool) (Fd G B K one : rw_) (a1 a2 a3 a4 : Int32) (e w : Bool) (s l : Int32) (R : tR), rn < 16 → a < 2 ^ 24 → Wf a1 a2 a3 a4 → (∀ i, rg (K i) 16) →
  ∃ code F' Fd' G' T' B' o' b' one' reg', f_X3_doRx (x1, x2, x3, x4, op, imm, nI rn, sx, nI a, opl) F Fd G (a1, a2, a3, a4) B K = (code, F', Fd', G', T', B') ∧ f_X8_doIndexed (a1, a2, a3, a4, e, w, s, l, 0, 0, R) (uB B) K one G op (nI rn) (nI a) = (o', b', one', reg') ∧ Res code G' T' B' K o' b' K reg' e w s l R ∧ s_X8_doIndexed (a1, a2, a3, a4, e, w, s, l, 0, 0, R) (uB B) K one G op (nI rn) (nI a)
theorem rx_64 : RXok 64 := by
  intro x1 x2 x3 x4 imm sx opl rn a F Fd G B K one a1 a2 a3 a4 e w s l R hr ha hw hK
  have vr : vp_in (nI rn) 16 := vp_in_nI (by omega) (by omega)
  have cr : (nI rn).toNatClampNeg = rn := nI_clamp (by omega)
  have ca : (nI a).toNatClampNeg = a := nI_clamp (by omega)
  have hsz : f_X8_sizeOf 64 = 2 := by decide
  have ham : f_X8_among 64 64 66 78 80 = true := by decide
  have gg := goodS K a 2 2 1 2 2 (by decide) (by decide) ha (by omega) (by omega) (by decide) (by omega) a1 a2 a3 a4 e w s l 0 R
  obtain ⟨gd, gs⟩ := gg
  rcases gd with ⟨g1, g2, g3, g4⟩ | ⟨c, c0, c1, g1, g2⟩
  · have hput := putHalf_eq B a (G rn) (by omega)
    have sput := s_put_ok (uB B) a (G rn) 2 (by omega)
    have sfld := s_field_ok (uB B) a 2 (by omega)
    have sput' : s_X8_put (uB B) (nI a) (G rn) 2 := sput
    have sfld' : s_X8_field (uB B) (nI a) 2 := sfld
    have hc : f_X3_doRx (x1, x2, x3, x4, 64, imm, nI rn, sx, nI a, opl) F Fd G (a1, a2, a3, a4) B K = (0, F, Fd, G, (a1, a2, a3, a4), f_X6_putHalf B (nI a) (G rn)) := by
      simp (decide := true) only [f_X3_doRx, f_X3_storeHalfword, reg_in _ _ hr, g1, q_let, ↓reduceIte]
    have hm : f_X8_doIndexed (a1, a2, a3, a4, e, w, s, l, 0, 0, R) (uB B) K one G 64 (nI rn) (nI a) = ((a1, a2, a3, a4, e, w, s, l, 0, 0, R), uB (f_X6_putHalf B (nI a) (G rn)), one, G) := by
      simp (decide := true) only [f_X8_doIndexed, hsz, ham, g2, f_X8_numbers, cr, hput, q_let, ↓reduceIte]
    have hss : s_X8_doIndexed (a1, a2, a3, a4, e, w, s, l, 0, 0, R) (uB B) K one G 64 (nI rn) (nI a) := by
      simp (decide := true) only [s_X8_doIndexed, hsz, ham, g2, gs, s_X8_numbers, cr, sput', sfld', vr, and_self, true_and, and_true, q_let, ↓reduceIte]
    exact ⟨_, _, _, _, _, _, _, _, _, _, hc, hm, Res_ok hw hK, hss⟩
  · have hc : f_X3_doRx (x1, x2, x3, x4, 64, imm, nI rn, sx, nI a, opl) F Fd G (a1, a2, a3, a4) B K = (c, F, Fd, G, (a1, a2, a3, a4), B) := by
      simp (decide := true) only [f_X3_doRx, f_X3_storeHalfword, g1, if_neg c0, q_let, ↓reduceIte]
    have hm : f_X8_doIndexed (a1, a2, a3, a4, e, w, s, l, 0, 0, R) (uB B) K one G 64 (nI rn) (nI a) = ((a1, a2, a3, a4, e, w, s, l, c, 0, R), uB (B), one, G) := by
      simp (decide := true) only [f_X8_doIndexed, hsz, ham, g2, q_let, ↓reduceIte]
    have hss : s_X8_doIndexed (a1, a2, a3, a4, e, w, s, l, 0, 0, R) (uB B) K one G 64 (nI rn) (nI a) := by
      simp (decide := true) only [s_X8_doIndexed, hsz, ham, g2, gs, vr, and_self, true_and, and_true, q_let, ↓reduceIte]
    exact ⟨_, _, _, _, _, _, _, _, _, _, hc, hm, Res_bad c1 hw hK, hss⟩
theorem rx_80 : RXok 80 := by
  intro x1 x2 x3 x4 imm sx opl rn a F Fd G B K one a1 a2 a3 a4 e w s l R hr ha hw hK
  have vr : vp_in (nI rn) 16 := vp_in_nI (by omega) (by omega)
  have cr : (nI rn).toNatClampNeg = rn := nI_clamp (by omega)
  have ca : (nI a).toNatClampNeg = a := nI_clamp (by omega)
  have hsz : f_X8_sizeOf 80 = 4 := by decide
  have ham : f_X8_among 80 64 66 78 80 = true := by decide
  have gg := goodS K a 4 4 2 4 4 (by decide) (by decide) ha (by omega) (by omega) (by decide) (by omega) a1 a2 a3 a4 e w s l 0 R
  obtain ⟨gd, gs⟩ := gg
  rcases gd with ⟨g1, g2, g3, g4⟩ | ⟨c, c0, c1, g1, g2⟩
  · have hput := putWord_eq B a (G rn) (by omega)
    have sput : s_X8_put (uB B) (nI a) (G rn) 4 := s_put_ok (uB B) a (G rn) 4 (by omega)
    have sfld : s_X8_field (uB B) (nI a) 4 := s_field_ok (uB B) a 4 (by omega)
    have hc : f_X3_doRx (x1, x2, x3, x4, 80, imm, nI rn, sx, nI a, opl) F Fd G (a1, a2, a3, a4) B K = (0, F, Fd, G, (a1, a2, a3, a4), f_X6_putWord B (nI a) (G rn)) := by
      simp (decide := true) only [f_X3_doRx, f_X3_storeWord, reg_in _ _ hr, g1, q_let, ↓reduceIte]
    have hm : f_X8_doIndexed (a1, a2, a3, a4, e, w, s, l, 0, 0, R) (uB B) K one G 80 (nI rn) (nI a) = ((a1, a2, a3, a4, e, w, s, l, 0, 0, R), uB (f_X6_putWord B (nI a) (G rn)), one, G) := by
      simp (decide := true) only [f_X8_doIndexed, hsz, ham, g2, f_X8_numbers, cr, hput, q_let, ↓reduceIte]
    have hss : s_X8_doIndexed (a1, a2, a3, a4, e, w, s, l, 0, 0, R) (uB B) K one G 80 (nI rn) (nI a) := by
      simp (decide := true) only [s_X8_doIndexed, hsz, ham, g2, gs, s_X8_numbers, cr, sput, sfld, vr, and_self, true_and, and_true, q_let, ↓reduceIte]
    exact ⟨_, _, _, _, _, _, _, _, _, _, hc, hm, Res_ok hw hK, hss⟩
  · have hc : f_X3_doRx (x1, x2, x3, x4, 80, imm, nI rn, sx, nI a, opl) F Fd G (a1, a2, a3, a4) B K = (c, F, Fd, G, (a1, a2, a3, a4), B) := by
      simp (decide := true) only [f_X3_doRx, f_X3_storeWord, g1, if_neg c0, q_let, ↓reduceIte]
    have hm : f_X8_doIndexed (a1, a2, a3, a4, e, w, s, l, 0, 0, R) (uB B) K one G 80 (nI rn) (nI a) = ((a1, a2, a3, a4, e, w, s, l, c, 0, R), uB (B), one, G) := by
      simp (decide := true) only [f_X8_doIndexed, hsz, ham, g2, q_let, ↓reduceIte]
    have hss : s_X8_doIndexed (a1, a2, a3, a4, e, w, s, l, 0, 0, R) (uB B) K one G 80 (nI rn) (nI a) := by
      simp (decide := true) only [s_X8_doIndexed, hsz, ham, g2, gs, vr, and_self, true_and, and_true, q_let, ↓reduceIte]
    exact ⟨_, _, _, _, _, _, _, _, _, _, hc, hm, Res_bad c1 hw hK, hss⟩
theorem rx_65 : RXok 65 := by
  intro x1 x2 x3 x4 imm sx opl rn a F Fd G B K one a1 a2 a3 a4 e w s l R hr ha hw hK
  have vr : vp_in (nI rn) 16 := vp_in_nI (by omega) (by omega)
  have cr : (nI rn).toNatClampNeg = rn := nI_clamp (by omega)
  have ca : (nI a).toNatClampNeg = a := nI_clamp (by omega)
  have hsz : f_X8_sizeOf 65 = 0 := by decide
  have ham : f_X8_among 65 64 66 78 80 = false := by decide
  have hc : f_X3_doRx (x1, x2, x3, x4, 65, imm, nI rn, sx, nI a, opl) F Fd G (a1, a2, a3, a4) B K = (0, F, Fd, upd G rn (nI a), (a1, a2, a3, a4), B) := by
    simp (decide := true) only [f_X3_doRx, f_X3_loadAddress, preg_in _ _ hr, q_let, ↓reduceIte]
  have hm : f_X8_doIndexed (a1, a2, a3, a4, e, w, s, l, 0, 0, R) (uB B) K one G 65 (nI rn) (nI a) = ((a1, a2, a3, a4, e, w, s, l, 0, 0, R), uB (B), one, upd G rn (nI a)) := by
    simp (decide := true) only [f_X8_doIndexed, hsz, ham, f_X8_ways, cr, q_let, ↓reduceIte]
  have hss : s_X8_doIndexed (a1, a2, a3, a4, e, w, s, l, 0, 0, R) (uB B) K one G 65 (nI rn) (nI a) := by
    simp (decide := true) only [s_X8_doIndexed, hsz, ham, s_X8_ways, vr, and_self, true_and, and_true, q_let, ↓reduceIte]
  exact ⟨_, _, _, _, _, _, _, _, _, _, hc, hm, Res_ok hw hK, hss⟩
theorem rx_66 : RXok 66 := by
  intro x1 x2 x3 x4 imm sx opl rn a F Fd G B K one a1 a2 a3 a4 e w s l R hr ha hw hK
  have vr : vp_in (nI rn) 16 := vp_in_nI (by omega) (by omega)
  have cr : (nI rn).toNatClampNeg = rn := nI_clamp (by omega)
  have ca : (nI a).toNatClampNeg = a := nI_clamp (by omega)
  have hsz : f_X8_sizeOf 66 = 1 := by decide
  have ham : f_X8_among 66 64 66 78 80 = true := by decide
  have gg := goodS K a 1 1 0 1 1 (by decide) (by decide) ha (by omega) (by omega) (by decide) (by omega) a1 a2 a3 a4 e w s l 0 R
  obtain ⟨gd, gs⟩ := gg
  rcases gd with ⟨g1, g2, g3, g4⟩ | ⟨c, c0, c1, g1, g2⟩
  · have hput := uB_putByte B a (G rn) (by omega)
    have va : vp_in (nI a) 2048 := vp_in_nI (by omega) (by omega)
    have hc : f_X3_doRx (x1, x2, x3, x4, 66, imm, nI rn, sx, nI a, opl) F Fd G (a1, a2, a3, a4) B K = (0, F, Fd, G, (a1, a2, a3, a4), f_X6_putByte B (nI a) (G rn)) := by
      simp (decide := true) only [f_X3_doRx, f_X3_storeByte, reg_in _ _ hr, g1, q_let, ↓reduceIte]
    have hm : f_X8_doIndexed (a1, a2, a3, a4, e, w, s, l, 0, 0, R) (uB B) K one G 66 (nI rn) (nI a) = ((a1, a2, a3, a4, e, w, s, l, 0, 0, R), uB (f_X6_putByte B (nI a) (G rn)), one, G) := by
      simp (decide := true) only [f_X8_doIndexed, hsz, ham, g2, cr, ca, hput, q_let, ↓reduceIte]
    have hss : s_X8_doIndexed (a1, a2, a3, a4, e, w, s, l, 0, 0, R) (uB B) K one G 66 (nI rn) (nI a) := by
      simp (decide := true) only [s_X8_doIndexed, hsz, ham, g2, gs, va, vr, and_self, true_and, and_true, q_let, ↓reduceIte]
    exact ⟨_, _, _, _, _, _, _, _, _, _, hc, hm, Res_ok hw hK, hss⟩
  · have hc : f_X3_doRx (x1, x2, x3, x4, 66, imm, nI rn, sx, nI a, opl) F Fd G (a1, a2, a3, a4) B K = (c, F, Fd, G, (a1, a2, a3, a4), B) := by
      simp (decide := true) only [f_X3_doRx, f_X3_storeByte, g1, if_neg c0, q_let, ↓reduceIte]
    have hm : f_X8_doIndexed (a1, a2, a3, a4, e, w, s, l, 0, 0, R) (uB B) K one G 66 (nI rn) (nI a) = ((a1, a2, a3, a4, e, w, s, l, c, 0, R), uB (B), one, G) := by
      simp (decide := true) only [f_X8_doIndexed, hsz, ham, g2, q_let, ↓reduceIte]
    have hss : s_X8_doIndexed (a1, a2, a3, a4, e, w, s, l, 0, 0, R) (uB B) K one G 66 (nI rn) (nI a) := by
      simp (decide := true) only [s_X8_doIndexed, hsz, ham, g2, gs, vr, and_self, true_and, and_true, q_let, ↓reduceIte]
    exact ⟨_, _, _, _, _, _, _, _, _, _, hc, hm, Res_bad c1 hw hK, hss⟩
theorem rx_67 : RXok 67 := by
  intro x1 x2 x3 x4 imm sx opl rn a F Fd G B K one a1 a2 a3 a4 e w s l R hr ha hw hK
  have vr : vp_in (nI rn) 16 := vp_in_nI (by omega) (by omega)
  have cr : (nI rn).toNatClampNeg = rn := nI_clamp (by omega)
  have ca : (nI a).toNatClampNeg = a := nI_clamp (by omega)
  have hsz : f_X8_sizeOf 67 = 1 := by decide
  have ham : f_X8_among 67 64 66 78 80 = false := by decide
  have gg := goodR K a 1 1 0 1 1 (by decide) (by decide) ha (by omega) (by omega) (by decide) (by omega) a1 a2 a3 a4 e w s l 0 R
  obtain ⟨gd, gs⟩ := gg
  rcases gd with ⟨g1, g2, g3, g4⟩ | ⟨c, c0, c1, g1, g2⟩
  · have hb := byteAt_in B a (by omega)
    have va : vp_in (nI a) 2048 := vp_in_nI (by omega) (by omega)
    have hor := or_low (G rn) (nB_lt B a)
    rw [← uB_nB] at hor
    have hc : f_X3_doRx (x1, x2, x3, x4, 67, imm, nI rn, sx, nI a, opl) F Fd G (a1, a2, a3, a4) B K = (0, F, Fd, upd G rn ((G rn &&& (-256 : Int32)) + uB B a), (a1, a2, a3, a4), B) := by
      simp (decide := true) only [f_X3_doRx, f_X3_insertByte, reg_in _ _ hr, preg_in _ _ hr, g1, hb, hor, q_let, ↓reduceIte]
    have hm : f_X8_doIndexed (a1, a2, a3, a4, e, w, s, l, 0, 0, R) (uB B) K one G 67 (nI rn) (nI a) = ((a1, a2, a3, a4, e, w, s, l, 0, 0, R), uB (B), one, upd G rn ((G rn &&& (-256 : Int32)) + uB B a)) := by
      simp (decide := true) only [f_X8_doIndexed, hsz, ham, g2, cr, ca, q_let, ↓reduceIte]
    have hss : s_X8_doIndexed (a1, a2, a3, a4, e, w, s, l, 0, 0, R) (uB B) K one G 67 (nI rn) (nI a) := by
      simp (decide := true) only [s_X8_doIndexed, hsz, ham, g2, gs, va, vr, and_self, true_and, and_true, q_let, ↓reduceIte]
    exact ⟨_, _, _, _, _, _, _, _, _, _, hc, hm, Res_ok hw hK, hss⟩
  · have hc : f_X3_doRx (x1, x2, x3, x4, 67, imm, nI rn, sx, nI a, opl) F Fd G (a1, a2, a3, a4) B K = (c, F, Fd, G, (a1, a2, a3, a4), B) := by
      simp (decide := true) only [f_X3_doRx, f_X3_insertByte, g1, if_neg c0, q_let, ↓reduceIte]
    have hm : f_X8_doIndexed (a1, a2, a3, a4, e, w, s, l, 0, 0, R) (uB B) K one G 67 (nI rn) (nI a) = ((a1, a2, a3, a4, e, w, s, l, c, 0, R), uB (B), one, G) := by
      simp (decide := true) only [f_X8_doIndexed, hsz, ham, g2, q_let, ↓reduceIte]
    have hss : s_X8_doIndexed (a1, a2, a3, a4, e, w, s, l, 0, 0, R) (uB B) K one G 67 (nI rn) (nI a) := by
      simp (decide := true) only [s_X8_doIndexed, hsz, ham, g2, gs, vr, and_self, true_and, and_true, q_let, ↓reduceIte]
    exact ⟨_, _, _, _, _, _, _, _, _, _, hc, hm, Res_bad c1 hw hK, hss⟩
theorem rx_69 : RXok 69 := by
  intro x1 x2 x3 x4 imm sx opl rn a F Fd G B K one a1 a2 a3 a4 e w s l R hr ha hw hK
  have vr : vp_in (nI rn) 16 := vp_in_nI (by omega) (by omega)
  have cr : (nI rn).toNatClampNeg = rn := nI_clamp (by omega)
  have ca : (nI a).toNatClampNeg = a := nI_clamp (by omega)
  have hsz : f_X8_sizeOf 69 = 0 := by decide
  have ham : f_X8_among 69 64 66 78 80 = false := by decide
  have hc : f_X3_doRx (x1, x2, x3, x4, 69, imm, nI rn, sx, nI a, opl) F Fd G (a1, a2, a3, a4) B K = (0, F, Fd, upd G rn a4, (a1, a2, a3, nI a &&& (65535 : Int32)), B) := by
    simp (decide := true) only [f_X3_doRx, f_X3_linkToPlace, f_X5_goTo, preg_in _ _ hr, q_let, ↓reduceIte]
  have hm : f_X8_doIndexed (a1, a2, a3, a4, e, w, s, l, 0, 0, R) (uB B) K one G 69 (nI rn) (nI a) = ((a1, a2, a3, nI a &&& (65535 : Int32), e, w, s, l, 0, 0, R), uB (B), one, upd G rn a4) := by
    simp (decide := true) only [f_X8_doIndexed, hsz, ham, f_X8_ways, f_X8_go, cr, q_let, ↓reduceIte]
  have hss : s_X8_doIndexed (a1, a2, a3, a4, e, w, s, l, 0, 0, R) (uB B) K one G 69 (nI rn) (nI a) := by
    simp (decide := true) only [s_X8_doIndexed, hsz, ham, s_X8_ways, vr, and_self, true_and, and_true, q_let, ↓reduceIte]
  exact ⟨_, _, _, _, _, _, _, _, _, _, hc, hm, Res_ok (Wf_go hw _) hK, hss⟩
theorem rx_70 : RXok 70 := by
  intro x1 x2 x3 x4 imm sx opl rn a F Fd G B K one a1 a2 a3 a4 e w s l R hr ha hw hK
  have vr : vp_in (nI rn) 16 := vp_in_nI (by omega) (by omega)
  have cr : (nI rn).toNatClampNeg = rn := nI_clamp (by omega)
  have ca : (nI a).toNatClampNeg = a := nI_clamp (by omega)
  have hsz : f_X8_sizeOf 70 = 0 := by decide
  have ham : f_X8_among 70 64 66 78 80 = false := by decide
  by_cases c : G rn - (1 : Int32) = 0
  · have hc : f_X3_doRx (x1, x2, x3, x4, 70, imm, nI rn, sx, nI a, opl) F Fd G (a1, a2, a3, a4) B K = (0, F, Fd, upd G rn (G rn - (1 : Int32)), (a1, a2, a3, a4), B) := by
      simp (decide := true) only [f_X3_doRx, f_X3_countAndBranch, reg_in _ _ hr, preg_in _ _ hr, pk_us, if_pos c, q_let, ↓reduceIte]
    have hm : f_X8_doIndexed (a1, a2, a3, a4, e, w, s, l, 0, 0, R) (uB B) K one G 70 (nI rn) (nI a) = ((a1, a2, a3, a4, e, w, s, l, 0, 0, R), uB (B), one, upd G rn (G rn - (1 : Int32))) := by
      simp (decide := true) only [f_X8_doIndexed, hsz, ham, f_X8_ways, cr, pk_us, if_pos c, q_let, ↓reduceIte]
    have hss : s_X8_doIndexed (a1, a2, a3, a4, e, w, s, l, 0, 0, R) (uB B) K one G 70 (nI rn) (nI a) := by
      simp (decide := true) only [s_X8_doIndexed, hsz, ham, s_X8_ways, cr, vr, and_self, true_and, and_true, q_let, ↓reduceIte]
    exact ⟨_, _, _, _, _, _, _, _, _, _, hc, hm, Res_ok hw hK, hss⟩
  · have hc : f_X3_doRx (x1, x2, x3, x4, 70, imm, nI rn, sx, nI a, opl) F Fd G (a1, a2, a3, a4) B K = (0, F, Fd, upd G rn (G rn - (1 : Int32)), (a1, a2, a3, nI a &&& (65535 : Int32)), B) := by
      simp (decide := true) only [f_X3_doRx, f_X3_countAndBranch, f_X5_goTo, reg_in _ _ hr, preg_in _ _ hr, pk_us, if_neg c, q_let, ↓reduceIte]
    have hm : f_X8_doIndexed (a1, a2, a3, a4, e, w, s, l, 0, 0, R) (uB B) K one G 70 (nI rn) (nI a) = ((a1, a2, a3, nI a &&& (65535 : Int32), e, w, s, l, 0, 0, R), uB (B), one, upd G rn (G rn - (1 : Int32))) := by
      simp (decide := true) only [f_X8_doIndexed, hsz, ham, f_X8_ways, f_X8_go, cr, pk_us, if_neg c, q_let, ↓reduceIte]
    have hss : s_X8_doIndexed (a1, a2, a3, a4, e, w, s, l, 0, 0, R) (uB B) K one G 70 (nI rn) (nI a) := by
      simp (decide := true) only [s_X8_doIndexed, hsz, ham, s_X8_ways, cr, vr, and_self, true_and, and_true, q_let, ↓reduceIte]
    exact ⟨_, _, _, _, _, _, _, _, _, _, hc, hm, Res_ok (Wf_go hw _) hK, hss⟩
theorem rx_71 : RXok 71 := by
  intro x1 x2 x3 x4 imm sx opl rn a F Fd G B K one a1 a2 a3 a4 e w s l R hr ha hw hK
  have vr : vp_in (nI rn) 16 := vp_in_nI (by omega) (by omega)
  have cr : (nI rn).toNatClampNeg = rn := nI_clamp (by omega)
  have ca : (nI a).toNatClampNeg = a := nI_clamp (by omega)
  have hsz : f_X8_sizeOf 71 = 0 := by decide
  have ham : f_X8_among 71 64 66 78 80 = false := by decide
  obtain ⟨cn, hcn, ecn⟩ := rg_nI (n := 4) hw.2.2.1 (by omega)
  have hh := hold_iff rn hr cn hcn
  rw [← ecn] at hh
  by_cases c1 : (nI rn &&& ((8 : Int32) >>> (a3 &&& 31))) = 0
  · have c2 : f_X8_holds (a1, a2, a3, a4, e, w, s, l, 0, 0, R) (nI rn) = false := if_neg (hh.mp c1)
    have hc : f_X3_doRx (x1, x2, x3, x4, 71, imm, nI rn, sx, nI a, opl) F Fd G (a1, a2, a3, a4) B K = (0, F, Fd, G, (a1, a2, a3, a4), B) := by
      simp (decide := true) only [f_X3_doRx, f_X3_branchIfAsked, if_pos c1, q_let, ↓reduceIte]
    have hm : f_X8_doIndexed (a1, a2, a3, a4, e, w, s, l, 0, 0, R) (uB B) K one G 71 (nI rn) (nI a) = ((a1, a2, a3, a4, e, w, s, l, 0, 0, R), uB (B), one, G) := by
      simp (decide := true) only [f_X8_doIndexed, hsz, ham, f_X8_ways, c2, q_let, ↓reduceIte]
    have hss : s_X8_doIndexed (a1, a2, a3, a4, e, w, s, l, 0, 0, R) (uB B) K one G 71 (nI rn) (nI a) := by
      simp (decide := true) only [s_X8_doIndexed, hsz, ham, s_X8_ways, vr, and_self, true_and, and_true, q_let, ↓reduceIte]
    exact ⟨_, _, _, _, _, _, _, _, _, _, hc, hm, Res_ok hw hK, hss⟩
  · have c2 : f_X8_holds (a1, a2, a3, a4, e, w, s, l, 0, 0, R) (nI rn) = true := if_pos (Classical.byContradiction fun q => c1 (hh.mpr q))
    have hc : f_X3_doRx (x1, x2, x3, x4, 71, imm, nI rn, sx, nI a, opl) F Fd G (a1, a2, a3, a4) B K = (0, F, Fd, G, (a1, a2, a3, nI a &&& (65535 : Int32)), B) := by
      simp (decide := true) only [f_X3_doRx, f_X3_branchIfAsked, f_X5_goTo, if_neg c1, q_let, ↓reduceIte]
    have hm : f_X8_doIndexed (a1, a2, a3, a4, e, w, s, l, 0, 0, R) (uB B) K one G 71 (nI rn) (nI a) = ((a1, a2, a3, nI a &&& (65535 : Int32), e, w, s, l, 0, 0, R), uB (B), one, G) := by
      simp (decide := true) only [f_X8_doIndexed, hsz, ham, f_X8_ways, f_X8_go, c2, q_let, ↓reduceIte]
    have hss : s_X8_doIndexed (a1, a2, a3, a4, e, w, s, l, 0, 0, R) (uB B) K one G 71 (nI rn) (nI a) := by
      simp (decide := true) only [s_X8_doIndexed, hsz, ham, s_X8_ways, vr, and_self, true_and, and_true, q_let, ↓reduceIte]
    exact ⟨_, _, _, _, _, _, _, _, _, _, hc, hm, Res_ok (Wf_go hw _) hK, hss⟩
theorem rx_72 : RXok 72 := by
  intro x1 x2 x3 x4 imm sx opl rn a F Fd G B K one a1 a2 a3 a4 e w s l R hr ha hw hK
  have vr : vp_in (nI rn) 16 := vp_in_nI (by omega) (by omega)
  have cr : (nI rn).toNatClampNeg = rn := nI_clamp (by omega)
  have ca : (nI a).toNatClampNeg = a := nI_clamp (by omega)
  have hsz : f_X8_sizeOf 72 = 2 := by decide
  have ham : f_X8_among 72 64 66 78 80 = false := by decide
  have gg := goodR K a 2 2 1 2 2 (by decide) (by decide) ha (by omega) (by omega) (by decide) (by omega) a1 a2 a3 a4 e w s l 0 R
  obtain ⟨gd, gs⟩ := gg
  rcases gd with ⟨g1, g2, g3, g4⟩ | ⟨c, c0, c1, g1, g2⟩
  · have sfld : s_X8_field (uB B) (nI a) 2 := s_field_ok (uB B) a 2 (by omega)
    obtain ⟨v, hv⟩ : ∃ v, v = f_X8_signed (f_X8_field (uB B) (nI a) 2) := ⟨_, rfl⟩
    have hv2 : (f_X6_halfAt B (nI a)).toInt16.toInt32 = v := by
      have := nB_lt B a; have := nB_lt B (a + 1)
      rw [hv, halfAt_eq B a (by omega), half_nI B (by omega)]
      exact short_eq _ (by omega)
    have hc : f_X3_doRx (x1, x2, x3, x4, 72, imm, nI rn, sx, nI a, opl) F Fd G (a1, a2, a3, a4) B K = (0, F, Fd, upd G rn v, (a1, a2, a3, a4), B) := by
      simp (decide := true) only [f_X3_doRx, f_X3_combineHalfword, reg_in _ _ hr, preg_in _ _ hr, g1, hv2, f_X3_combine, q_let, ↓reduceIte]
    have hm : f_X8_doIndexed (a1, a2, a3, a4, e, w, s, l, 0, 0, R) (uB B) K one G 72 (nI rn) (nI a) = ((a1, a2, a3, a4, e, w, s, l, 0, 0, R), uB (B), one, upd G rn v) := by
      simp (decide := true) only [f_X8_doIndexed, hsz, ham, g2, cr, ← hv, f_X8_numbers, q_let, ↓reduceIte]
    have hss : s_X8_doIndexed (a1, a2, a3, a4, e, w, s, l, 0, 0, R) (uB B) K one G 72 (nI rn) (nI a) := by
      simp (decide := true) only [s_X8_doIndexed, hsz, ham, g2, gs, sfld, cr, ← hv, s_X8_numbers, vr, and_self, true_and, and_true, q_let, ↓reduceIte]
    exact ⟨_, _, _, _, _, _, _, _, _, _, hc, hm, Res_ok hw hK, hss⟩
  · have hc : f_X3_doRx (x1, x2, x3, x4, 72, imm, nI rn, sx, nI a, opl) F Fd G (a1, a2, a3, a4) B K = (c, F, Fd, G, (a1, a2, a3, a4), B) := by
      simp (decide := true) only [f_X3_doRx, f_X3_combineHalfword, g1, if_neg c0, q_let, ↓reduceIte]
    have hm : f_X8_doIndexed (a1, a2, a3, a4, e, w, s, l, 0, 0, R) (uB B) K one G 72 (nI rn) (nI a) = ((a1, a2, a3, a4, e, w, s, l, c, 0, R), uB (B), one, G) := by
      simp (decide := true) only [f_X8_doIndexed, hsz, ham, g2, q_let, ↓reduceIte]
    have hss : s_X8_doIndexed (a1, a2, a3, a4, e, w, s, l, 0, 0, R) (uB B) K one G 72 (nI rn) (nI a) := by
      simp (decide := true) only [s_X8_doIndexed, hsz, ham, g2, gs, vr, and_self, true_and, and_true, q_let, ↓reduceIte]
    exact ⟨_, _, _, _, _, _, _, _, _, _, hc, hm, Res_bad c1 hw hK, hss⟩
theorem rx_73 : RXok 73 := by
  intro x1 x2 x3 x4 imm sx opl rn a F Fd G B K one a1 a2 a3 a4 e w s l R hr ha hw hK
  have vr : vp_in (nI rn) 16 := vp_in_nI (by omega) (by omega)
  have cr : (nI rn).toNatClampNeg = rn := nI_clamp (by omega)
  have ca : (nI a).toNatClampNeg = a := nI_clamp (by omega)
  have hsz : f_X8_sizeOf 73 = 2 := by decide
  have ham : f_X8_among 73 64 66 78 80 = false := by decide
  have gg := goodR K a 2 2 1 2 2 (by decide) (by decide) ha (by omega) (by omega) (by decide) (by omega) a1 a2 a3 a4 e w s l 0 R
  obtain ⟨gd, gs⟩ := gg
  rcases gd with ⟨g1, g2, g3, g4⟩ | ⟨c, c0, c1, g1, g2⟩
  · have sfld : s_X8_field (uB B) (nI a) 2 := s_field_ok (uB B) a 2 (by omega)
    obtain ⟨v, hv⟩ : ∃ v, v = f_X8_signed (f_X8_field (uB B) (nI a) 2) := ⟨_, rfl⟩
    have hv2 : (f_X6_halfAt B (nI a)).toInt16.toInt32 = v := by
      have := nB_lt B a; have := nB_lt B (a + 1)
      rw [hv, halfAt_eq B a (by omega), half_nI B (by omega)]
      exact short_eq _ (by omega)
    have hc : f_X3_doRx (x1, x2, x3, x4, 73, imm, nI rn, sx, nI a, opl) F Fd G (a1, a2, a3, a4) B K = (0, F, Fd, G, (a1, a2, od (G rn).toInt v.toInt, a4), B) := by
      simp (decide := true) only [f_X3_doRx, f_X3_combineHalfword, reg_in _ _ hr, preg_in _ _ hr, g1, hv2, f_X3_combine, orderI, q_let, ↓reduceIte]
    have hm : f_X8_doIndexed (a1, a2, a3, a4, e, w, s, l, 0, 0, R) (uB B) K one G 73 (nI rn) (nI a) = ((a1, a2, od (G rn).toInt v.toInt, a4, e, w, s, l, 0, 0, R), uB (B), one, G) := by
      simp (decide := true) only [f_X8_doIndexed, hsz, ham, g2, cr, ← hv, f_X8_numbers, cmp_eq, q_let, ↓reduceIte]
    have hss : s_X8_doIndexed (a1, a2, a3, a4, e, w, s, l, 0, 0, R) (uB B) K one G 73 (nI rn) (nI a) := by
      simp (decide := true) only [s_X8_doIndexed, hsz, ham, g2, gs, sfld, cr, ← hv, s_X8_numbers, vr, and_self, true_and, and_true, q_let, ↓reduceIte]
    exact ⟨_, _, _, _, _, _, _, _, _, _, hc, hm, Res_ok (Wf_cc hw (od_rg _ _)) hK, hss⟩
  · have hc : f_X3_doRx (x1, x2, x3, x4, 73, imm, nI rn, sx, nI a, opl) F Fd G (a1, a2, a3, a4) B K = (c, F, Fd, G, (a1, a2, a3, a4), B) := by
      simp (decide := true) only [f_X3_doRx, f_X3_combineHalfword, g1, if_neg c0, q_let, ↓reduceIte]
    have hm : f_X8_doIndexed (a1, a2, a3, a4, e, w, s, l, 0, 0, R) (uB B) K one G 73 (nI rn) (nI a) = ((a1, a2, a3, a4, e, w, s, l, c, 0, R), uB (B), one, G) := by
      simp (decide := true) only [f_X8_doIndexed, hsz, ham, g2, q_let, ↓reduceIte]
    have hss : s_X8_doIndexed (a1, a2, a3, a4, e, w, s, l, 0, 0, R) (uB B) K one G 73 (nI rn) (nI a) := by
      simp (decide := true) only [s_X8_doIndexed, hsz, ham, g2, gs, vr, and_self, true_and, and_true, q_let, ↓reduceIte]
    exact ⟨_, _, _, _, _, _, _, _, _, _, hc, hm, Res_bad c1 hw hK, hss⟩
theorem rx_74 : RXok 74 := by
  intro x1 x2 x3 x4 imm sx opl rn a F Fd G B K one a1 a2 a3 a4 e w s l R hr ha hw hK
  have vr : vp_in (nI rn) 16 := vp_in_nI (by omega) (by omega)
  have cr : (nI rn).toNatClampNeg = rn := nI_clamp (by omega)
  have ca : (nI a).toNatClampNeg = a := nI_clamp (by omega)
  have hsz : f_X8_sizeOf 74 = 2 := by decide
  have ham : f_X8_among 74 64 66 78 80 = false := by decide
  have gg := goodR K a 2 2 1 2 2 (by decide) (by decide) ha (by omega) (by omega) (by decide) (by omega) a1 a2 a3 a4 e w s l 0 R
  obtain ⟨gd, gs⟩ := gg
  rcases gd with ⟨g1, g2, g3, g4⟩ | ⟨c, c0, c1, g1, g2⟩
  · have sfld : s_X8_field (uB B) (nI a) 2 := s_field_ok (uB B) a 2 (by omega)
    obtain ⟨v, hv⟩ : ∃ v, v = f_X8_signed (f_X8_field (uB B) (nI a) 2) := ⟨_, rfl⟩
    have hv2 : (f_X6_halfAt B (nI a)).toInt16.toInt32 = v := by
      have := nB_lt B a; have := nB_lt B (a + 1)
      rw [hv, halfAt_eq B a (by omega), half_nI B (by omega)]
      exact short_eq _ (by omega)
    obtain ⟨c, b3, s1, s2, s3⟩ := sum_eq x1 x2 x3 x4 74 imm rn sx (nI a) opl hr G a1 a2 a3 a4 e w s l R hw.1 ((G rn).toInt64 + v.toInt64)
    have hc : f_X3_doRx (x1, x2, x3, x4, 74, imm, nI rn, sx, nI a, opl) F Fd G (a1, a2, a3, a4) B K = (c, F, Fd, upd G rn ((G rn).toInt64 + v.toInt64).toInt32, (a1, a2, b3, a4), B) := by
      simp (decide := true) only [f_X3_doRx, f_X3_combineHalfword, reg_in _ _ hr, preg_in _ _ hr, g1, hv2, f_X3_combine, s1, q_let, ↓reduceIte]
    have hm : f_X8_doIndexed (a1, a2, a3, a4, e, w, s, l, 0, 0, R) (uB B) K one G 74 (nI rn) (nI a) = ((a1, a2, b3, a4, e, w, s, l, 0, c, R), uB (B), one, upd G rn ((G rn).toInt64 + v.toInt64).toInt32) := by
      simp (decide := true) only [f_X8_doIndexed, hsz, ham, g2, cr, ← hv, f_X8_numbers, s2, q_let, ↓reduceIte]
    have hss : s_X8_doIndexed (a1, a2, a3, a4, e, w, s, l, 0, 0, R) (uB B) K one G 74 (nI rn) (nI a) := by
      simp (decide := true) only [s_X8_doIndexed, hsz, ham, g2, gs, sfld, cr, ← hv, s_X8_numbers, s2, vr, and_self, true_and, and_true, q_let, ↓reduceIte]
    exact ⟨_, _, _, _, _, _, _, _, _, _, hc, hm, Res_ok (Wf_cc hw s3) hK, hss⟩
  · have hc : f_X3_doRx (x1, x2, x3, x4, 74, imm, nI rn, sx, nI a, opl) F Fd G (a1, a2, a3, a4) B K = (c, F, Fd, G, (a1, a2, a3, a4), B) := by
      simp (decide := true) only [f_X3_doRx, f_X3_combineHalfword, g1, if_neg c0, q_let, ↓reduceIte]
    have hm : f_X8_doIndexed (a1, a2, a3, a4, e, w, s, l, 0, 0, R) (uB B) K one G 74 (nI rn) (nI a) = ((a1, a2, a3, a4, e, w, s, l, c, 0, R), uB (B), one, G) := by
      simp (decide := true) only [f_X8_doIndexed, hsz, ham, g2, q_let, ↓reduceIte]
    have hss : s_X8_doIndexed (a1, a2, a3, a4, e, w, s, l, 0, 0, R) (uB B) K one G 74 (nI rn) (nI a) := by
      simp (decide := true) only [s_X8_doIndexed, hsz, ham, g2, gs, vr, and_self, true_and, and_true, q_let, ↓reduceIte]
    exact ⟨_, _, _, _, _, _, _, _, _, _, hc, hm, Res_bad c1 hw hK, hss⟩
theorem rx_88 : RXok 88 := by
  intro x1 x2 x3 x4 imm sx opl rn a F Fd G B K one a1 a2 a3 a4 e w s l R hr ha hw hK
  have vr : vp_in (nI rn) 16 := vp_in_nI (by omega) (by omega)
  have cr : (nI rn).toNatClampNeg = rn := nI_clamp (by omega)
  have ca : (nI a).toNatClampNeg = a := nI_clamp (by omega)
  have hsz : f_X8_sizeOf 88 = 4 := by decide
  have ham : f_X8_among 88 64 66 78 80 = false := by decide
  have gg := goodR K a 4 4 2 4 4 (by decide) (by decide) ha (by omega) (by omega) (by decide) (by omega) a1 a2 a3 a4 e w s l 0 R
  obtain ⟨gd, gs⟩ := gg
  rcases gd with ⟨g1, g2, g3, g4⟩ | ⟨c, c0, c1, g1, g2⟩
  · have sfld : s_X8_field (uB B) (nI a) 4 := s_field_ok (uB B) a 4 (by omega)
    obtain ⟨v, hv⟩ : ∃ v, v = f_X8_field (uB B) (nI a) 4 := ⟨_, rfl⟩
    have hv2 : f_X6_wordAt B (nI a) = v := by rw [hv]; exact wordAt_eq B a (by omega)
    have hc : f_X3_doRx (x1, x2, x3, x4, 88, imm, nI rn, sx, nI a, opl) F Fd G (a1, a2, a3, a4) B K = (0, F, Fd, upd G rn v, (a1, a2, a3, a4), B) := by
      simp (decide := true) only [f_X3_doRx, f_X3_combineWord, reg_in _ _ hr, preg_in _ _ hr, g1, hv2, f_X3_combine, q_let, ↓reduceIte]
    have hm : f_X8_doIndexed (a1, a2, a3, a4, e, w, s, l, 0, 0, R) (uB B) K one G 88 (nI rn) (nI a) = ((a1, a2, a3, a4, e, w, s, l, 0, 0, R), uB (B), one, upd G rn v) := by
      simp (decide := true) only [f_X8_doIndexed, hsz, ham, g2, cr, ← hv, f_X8_numbers, q_let, ↓reduceIte]
    have hss : s_X8_doIndexed (a1, a2, a3, a4, e, w, s, l, 0, 0, R) (uB B) K one G 88 (nI rn) (nI a) := by
      simp (decide := true) only [s_X8_doIndexed, hsz, ham, g2, gs, sfld, cr, ← hv, s_X8_numbers, vr, and_self, true_and, and_true, q_let, ↓reduceIte]
    exact ⟨_, _, _, _, _, _, _, _, _, _, hc, hm, Res_ok hw hK, hss⟩
  · have hc : f_X3_doRx (x1, x2, x3, x4, 88, imm, nI rn, sx, nI a, opl) F Fd G (a1, a2, a3, a4) B K = (c, F, Fd, G, (a1, a2, a3, a4), B) := by
      simp (decide := true) only [f_X3_doRx, f_X3_combineWord, g1, if_neg c0, q_let, ↓reduceIte]
    have hm : f_X8_doIndexed (a1, a2, a3, a4, e, w, s, l, 0, 0, R) (uB B) K one G 88 (nI rn) (nI a) = ((a1, a2, a3, a4, e, w, s, l, c, 0, R), uB (B), one, G) := by
      simp (decide := true) only [f_X8_doIndexed, hsz, ham, g2, q_let, ↓reduceIte]
    have hss : s_X8_doIndexed (a1, a2, a3, a4, e, w, s, l, 0, 0, R) (uB B) K one G 88 (nI rn) (nI a) := by
      simp (decide := true) only [s_X8_doIndexed, hsz, ham, g2, gs, vr, and_self, true_and, and_true, q_let, ↓reduceIte]
    exact ⟨_, _, _, _, _, _, _, _, _, _, hc, hm, Res_bad c1 hw hK, hss⟩
theorem rx_89 : RXok 89 := by
  intro x1 x2 x3 x4 imm sx opl rn a F Fd G B K one a1 a2 a3 a4 e w s l R hr ha hw hK
  have vr : vp_in (nI rn) 16 := vp_in_nI (by omega) (by omega)
  have cr : (nI rn).toNatClampNeg = rn := nI_clamp (by omega)
  have ca : (nI a).toNatClampNeg = a := nI_clamp (by omega)
  have hsz : f_X8_sizeOf 89 = 4 := by decide
  have ham : f_X8_among 89 64 66 78 80 = false := by decide
  have gg := goodR K a 4 4 2 4 4 (by decide) (by decide) ha (by omega) (by omega) (by decide) (by omega) a1 a2 a3 a4 e w s l 0 R
  obtain ⟨gd, gs⟩ := gg
  rcases gd with ⟨g1, g2, g3, g4⟩ | ⟨c, c0, c1, g1, g2⟩
  · have sfld : s_X8_field (uB B) (nI a) 4 := s_field_ok (uB B) a 4 (by omega)
    obtain ⟨v, hv⟩ : ∃ v, v = f_X8_field (uB B) (nI a) 4 := ⟨_, rfl⟩
    have hv2 : f_X6_wordAt B (nI a) = v := by rw [hv]; exact wordAt_eq B a (by omega)
    have hc : f_X3_doRx (x1, x2, x3, x4, 89, imm, nI rn, sx, nI a, opl) F Fd G (a1, a2, a3, a4) B K = (0, F, Fd, G, (a1, a2, od (G rn).toInt v.toInt, a4), B) := by
      simp (decide := true) only [f_X3_doRx, f_X3_combineWord, reg_in _ _ hr, preg_in _ _ hr, g1, hv2, f_X3_combine, orderI, q_let, ↓reduceIte]
    have hm : f_X8_doIndexed (a1, a2, a3, a4, e, w, s, l, 0, 0, R) (uB B) K one G 89 (nI rn) (nI a) = ((a1, a2, od (G rn).toInt v.toInt, a4, e, w, s, l, 0, 0, R), uB (B), one, G) := by
      simp (decide := true) only [f_X8_doIndexed, hsz, ham, g2, cr, ← hv, f_X8_numbers, cmp_eq, q_let, ↓reduceIte]
    have hss : s_X8_doIndexed (a1, a2, a3, a4, e, w, s, l, 0, 0, R) (uB B) K one G 89 (nI rn) (nI a) := by
      simp (decide := true) only [s_X8_doIndexed, hsz, ham, g2, gs, sfld, cr, ← hv, s_X8_numbers, vr, and_self, true_and, and_true, q_let, ↓reduceIte]
    exact ⟨_, _, _, _, _, _, _, _, _, _, hc, hm, Res_ok (Wf_cc hw (od_rg _ _)) hK, hss⟩
  · have hc : f_X3_doRx (x1, x2, x3, x4, 89, imm, nI rn, sx, nI a, opl) F Fd G (a1, a2, a3, a4) B K = (c, F, Fd, G, (a1, a2, a3, a4), B) := by
      simp (decide := true) only [f_X3_doRx, f_X3_combineWord, g1, if_neg c0, q_let, ↓reduceIte]
    have hm : f_X8_doIndexed (a1, a2, a3, a4, e, w, s, l, 0, 0, R) (uB B) K one G 89 (nI rn) (nI a) = ((a1, a2, a3, a4, e, w, s, l, c, 0, R), uB (B), one, G) := by
      simp (decide := true) only [f_X8_doIndexed, hsz, ham, g2, q_let, ↓reduceIte]
    have hss : s_X8_doIndexed (a1, a2, a3, a4, e, w, s, l, 0, 0, R) (uB B) K one G 89 (nI rn) (nI a) := by
      simp (decide := true) only [s_X8_doIndexed, hsz, ham, g2, gs, vr, and_self, true_and, and_true, q_let, ↓reduceIte]
    exact ⟨_, _, _, _, _, _, _, _, _, _, hc, hm, Res_bad c1 hw hK, hss⟩
theorem rx_90 : RXok 90 := by
  intro x1 x2 x3 x4 imm sx opl rn a F Fd G B K one a1 a2 a3 a4 e w s l R hr ha hw hK
  have vr : vp_in (nI rn) 16 := vp_in_nI (by omega) (by omega)
  have cr : (nI rn).toNatClampNeg = rn := nI_clamp (by omega)
  have ca : (nI a).toNatClampNeg = a := nI_clamp (by omega)
  have hsz : f_X8_sizeOf 90 = 4 := by decide
  have ham : f_X8_among 90 64 66 78 80 = false := by decide
  have gg := goodR K a 4 4 2 4 4 (by decide) (by decide) ha (by omega) (by omega) (by decide) (by omega) a1 a2 a3 a4 e w s l 0 R
  obtain ⟨gd, gs⟩ := gg
  rcases gd with ⟨g1, g2, g3, g4⟩ | ⟨c, c0, c1, g1, g2⟩
  · have sfld : s_X8_field (uB B) (nI a) 4 := s_field_ok (uB B) a 4 (by omega)
    obtain ⟨v, hv⟩ : ∃ v, v = f_X8_field (uB B) (nI a) 4 := ⟨_, rfl⟩
    have hv2 : f_X6_wordAt B (nI a) = v := by rw [hv]; exact wordAt_eq B a (by omega)
    obtain ⟨c, b3, s1, s2, s3⟩ := sum_eq x1 x2 x3 x4 90 imm rn sx (nI a) opl hr G a1 a2 a3 a4 e w s l R hw.1 ((G rn).toInt64 + v.toInt64)
    have hc : f_X3_doRx (x1, x2, x3, x4, 90, imm, nI rn, sx, nI a, opl) F Fd G (a1, a2, a3, a4) B K = (c, F, Fd, upd G rn ((G rn).toInt64 + v.toInt64).toInt32, (a1, a2, b3, a4), B) := by
      simp (decide := true) only [f_X3_doRx, f_X3_combineWord, reg_in _ _ hr, preg_in _ _ hr, g1, hv2, f_X3_combine, s1, q_let, ↓reduceIte]
    have hm : f_X8_doIndexed (a1, a2, a3, a4, e, w, s, l, 0, 0, R) (uB B) K one G 90 (nI rn) (nI a) = ((a1, a2, b3, a4, e, w, s, l, 0, c, R), uB (B), one, upd G rn ((G rn).toInt64 + v.toInt64).toInt32) := by
      simp (decide := true) only [f_X8_doIndexed, hsz, ham, g2, cr, ← hv, f_X8_numbers, s2, q_let, ↓reduceIte]
    have hss : s_X8_doIndexed (a1, a2, a3, a4, e, w, s, l, 0, 0, R) (uB B) K one G 90 (nI rn) (nI a) := by
      simp (decide := true) only [s_X8_doIndexed, hsz, ham, g2, gs, sfld, cr, ← hv, s_X8_numbers, s2, vr, and_self, true_and, and_true, q_let, ↓reduceIte]
    exact ⟨_, _, _, _, _, _, _, _, _, _, hc, hm, Res_ok (Wf_cc hw s3) hK, hss⟩
  · have hc : f_X3_doRx (x1, x2, x3, x4, 90, imm, nI rn, sx, nI a, opl) F Fd G (a1, a2, a3, a4) B K = (c, F, Fd, G, (a1, a2, a3, a4), B) := by
      simp (decide := true) only [f_X3_doRx, f_X3_combineWord, g1, if_neg c0, q_let, ↓reduceIte]
    have hm : f_X8_doIndexed (a1, a2, a3, a4, e, w, s, l, 0, 0, R) (uB B) K one G 90 (nI rn) (nI a) = ((a1, a2, a3, a4, e, w, s, l, c, 0, R), uB (B), one, G) := by
      simp (decide := true) only [f_X8_doIndexed, hsz, ham, g2, q_let, ↓reduceIte]
    have hss : s_X8_doIndexed (a1, a2, a3, a4, e, w, s, l, 0, 0, R) (uB B) K one G 90 (nI rn) (nI a) := by
      simp (decide := true) only [s_X8_doIndexed, hsz, ham, g2, gs, vr, and_self, true_and, and_true, q_let, ↓reduceIte]
    exact ⟨_, _, _, _, _, _, _, _, _, _, hc, hm, Res_bad c1 hw hK, hss⟩
theorem rx_91 : RXok 91 := by
  intro x1 x2 x3 x4 imm sx opl rn a F Fd G B K one a1 a2 a3 a4 e w s l R hr ha hw hK
  have vr : vp_in (nI rn) 16 := vp_in_nI (by omega) (by omega)
  have cr : (nI rn).toNatClampNeg = rn := nI_clamp (by omega)
  have ca : (nI a).toNatClampNeg = a := nI_clamp (by omega)
  have hsz : f_X8_sizeOf 91 = 4 := by decide
  have ham : f_X8_among 91 64 66 78 80 = false := by decide
  have gg := goodR K a 4 4 2 4 4 (by decide) (by decide) ha (by omega) (by omega) (by decide) (by omega) a1 a2 a3 a4 e w s l 0 R
  obtain ⟨gd, gs⟩ := gg
  rcases gd with ⟨g1, g2, g3, g4⟩ | ⟨c, c0, c1, g1, g2⟩
  · have sfld : s_X8_field (uB B) (nI a) 4 := s_field_ok (uB B) a 4 (by omega)
    obtain ⟨v, hv⟩ : ∃ v, v = f_X8_field (uB B) (nI a) 4 := ⟨_, rfl⟩
    have hv2 : f_X6_wordAt B (nI a) = v := by rw [hv]; exact wordAt_eq B a (by omega)
    obtain ⟨c, b3, s1, s2, s3⟩ := sum_eq x1 x2 x3 x4 91 imm rn sx (nI a) opl hr G a1 a2 a3 a4 e w s l R hw.1 ((G rn).toInt64 - v.toInt64)
    have hc : f_X3_doRx (x1, x2, x3, x4, 91, imm, nI rn, sx, nI a, opl) F Fd G (a1, a2, a3, a4) B K = (c, F, Fd, upd G rn ((G rn).toInt64 - v.toInt64).toInt32, (a1, a2, b3, a4), B) := by
      simp (decide := true) only [f_X3_doRx, f_X3_combineWord, reg_in _ _ hr, preg_in _ _ hr, g1, hv2, f_X3_combine, s1, q_let, ↓reduceIte]
    have hm : f_X8_doIndexed (a1, a2, a3, a4, e, w, s, l, 0, 0, R) (uB B) K one G 91 (nI rn) (nI a) = ((a1, a2, b3, a4, e, w, s, l, 0, c, R), uB (B), one, upd G rn ((G rn).toInt64 - v.toInt64).toInt32) := by
      simp (decide := true) only [f_X8_doIndexed, hsz, ham, g2, cr, ← hv, f_X8_numbers, s2, q_let, ↓reduceIte]
    have hss : s_X8_doIndexed (a1, a2, a3, a4, e, w, s, l, 0, 0, R) (uB B) K one G 91 (nI rn) (nI a) := by
      simp (decide := true) only [s_X8_doIndexed, hsz, ham, g2, gs, sfld, cr, ← hv, s_X8_numbers, s2, vr, and_self, true_and, and_true, q_let, ↓reduceIte]
    exact ⟨_, _, _, _, _, _, _, _, _, _, hc, hm, Res_ok (Wf_cc hw s3) hK, hss⟩
  · have hc : f_X3_doRx (x1, x2, x3, x4, 91, imm, nI rn, sx, nI a, opl) F Fd G (a1, a2, a3, a4) B K = (c, F, Fd, G, (a1, a2, a3, a4), B) := by
      simp (decide := true) only [f_X3_doRx, f_X3_combineWord, g1, if_neg c0, q_let, ↓reduceIte]
    have hm : f_X8_doIndexed (a1, a2, a3, a4, e, w, s, l, 0, 0, R) (uB B) K one G 91 (nI rn) (nI a) = ((a1, a2, a3, a4, e, w, s, l, c, 0, R), uB (B), one, G) := by
      simp (decide := true) only [f_X8_doIndexed, hsz, ham, g2, q_let, ↓reduceIte]
    have hss : s_X8_doIndexed (a1, a2, a3, a4, e, w, s, l, 0, 0, R) (uB B) K one G 91 (nI rn) (nI a) := by
      simp (decide := true) only [s_X8_doIndexed, hsz, ham, g2, gs, vr, and_self, true_and, and_true, q_let, ↓reduceIte]
    exact ⟨_, _, _, _, _, _, _, _, _, _, hc, hm, Res_bad c1 hw hK, hss⟩
theorem rx_78 : RXok 78 := by
  intro x1 x2 x3 x4 imm sx opl rn a F Fd G B K one a1 a2 a3 a4 e w s l R hr ha hw hK
  have vr : vp_in (nI rn) 16 := vp_in_nI (by omega) (by omega)
  have cr : (nI rn).toNatClampNeg = rn := nI_clamp (by omega)
  have ca : (nI a).toNatClampNeg = a := nI_clamp (by omega)
  have hsz : f_X8_sizeOf 78 = 8 := by decide
  have ham : f_X8_among 78 64 66 78 80 = true := by decide
  have gg := goodS K a 8 8 3 8 8 (by decide) (by decide) ha (by omega) (by omega) (by decide) (by omega) a1 a2 a3 a4 e w s l 0 R
  obtain ⟨gd, gs⟩ := gg
  rcases gd with ⟨g1, g2, g3, g4⟩ | ⟨c, c0, c1, g1, g2⟩
  · obtain ⟨ng, m, D', u1, u2, u3, -⟩ := become_eq Fd one (G rn)
    obtain ⟨B', p1, p2, p3⟩ := stored ng D' B (f_X8_spread one (G rn)) (fun k => ((dgt m k : Nat) : Int)) (fun k => by have := dgt_le m k; omega) u2 u3 a 8 (by omega) (by omega) (by omega)
    have e8 : (8 : Int32) = nI 8 := by decide
    have p1' : f_X1_putTo ng D' B (nI a) 8 = (f_X1_isWithin D' (nI (2 * 8 - 1)), B') := by rw [e8]; exact p1
    have p2' : f_X8_store (uB B) (f_X8_spread one (G rn)) (nI a) 8 = uB B' := by rw [e8]; exact p2
    have p3' : s_X8_store (uB B) (f_X8_spread one (G rn)) (nI a) 8 := by rw [e8]; exact p3
    have hc : f_X3_doRx (x1, x2, x3, x4, 78, imm, nI rn, sx, nI a, opl) F Fd G (a1, a2, a3, a4) B K = (0, ng, D', G, (a1, a2, a3, a4), B') := by
      simp (decide := true) only [f_X3_doRx, f_X3_convertToPacked, reg_in _ _ hr, g1, u1, p1', q_let, ↓reduceIte]
    have hm : f_X8_doIndexed (a1, a2, a3, a4, e, w, s, l, 0, 0, R) (uB B) K one G 78 (nI rn) (nI a) = ((a1, a2, a3, a4, e, w, s, l, 0, 0, R), uB (B'), f_X8_spread one (G rn), G) := by
      simp (decide := true) only [f_X8_doIndexed, hsz, ham, g2, cr, p2', q_let, ↓reduceIte]
    have hss : s_X8_doIndexed (a1, a2, a3, a4, e, w, s, l, 0, 0, R) (uB B) K one G 78 (nI rn) (nI a) := by
      simp (decide := true) only [s_X8_doIndexed, hsz, ham, g2, gs, cr, p3', vr, and_self, true_and, and_true, q_let, ↓reduceIte]
    exact ⟨_, _, _, _, _, _, _, _, _, _, hc, hm, Res_ok hw hK, hss⟩
  · have hc : f_X3_doRx (x1, x2, x3, x4, 78, imm, nI rn, sx, nI a, opl) F Fd G (a1, a2, a3, a4) B K = (c, F, Fd, G, (a1, a2, a3, a4), B) := by
      simp (decide := true) only [f_X3_doRx, f_X3_convertToPacked, g1, if_neg c0, q_let, ↓reduceIte]
    have hm : f_X8_doIndexed (a1, a2, a3, a4, e, w, s, l, 0, 0, R) (uB B) K one G 78 (nI rn) (nI a) = ((a1, a2, a3, a4, e, w, s, l, c, 0, R), uB (B), one, G) := by
      simp (decide := true) only [f_X8_doIndexed, hsz, ham, g2, q_let, ↓reduceIte]
    have hss : s_X8_doIndexed (a1, a2, a3, a4, e, w, s, l, 0, 0, R) (uB B) K one G 78 (nI rn) (nI a) := by
      simp (decide := true) only [s_X8_doIndexed, hsz, ham, g2, gs, vr, and_self, true_and, and_true, q_let, ↓reduceIte]
    exact ⟨_, _, _, _, _, _, _, _, _, _, hc, hm, Res_bad c1 hw hK, hss⟩
theorem tb_bad (B one one' G : rw_) (rn a : Nat) (a1 a2 a3 a4 : Int32) (e w : Bool) (s l : Int32) (R : tR) (r2 : f_X8_unpackA (uB B) one (nI a) 8 = (false, one')) (r3 : s_X8_unpackA (uB B) one (nI a) 8) :
    f_X8_toBinary (a1, a2, a3, a4, e, w, s, l, 0, 0, R) (uB B) one G (nI rn) (nI a) = ((a1, a2, a3, a4, e, w, s, l, 7, 0, R), one', G) ∧ s_X8_toBinary (a1, a2, a3, a4, e, w, s, l, 0, 0, R) (uB B) one (nI rn) (nI a) := by
  have hfu : ((14 : Int32).toInt + 1).toNat + 1 = 16 := by decide
  have h14 : (14 : Int32) = iI (((15 : Nat) : Int) - 1) := by decide
  obtain ⟨z1, z2⟩ := bad31 G (nI rn) a1 a2 a3 a4 e w s l 0 R one' 15 16 0 (by omega) (by omega)
  refine ⟨?_, ?_⟩
  · unfold f_X8_toBinary
    rw [r2]
    simp only [q_let]
    rw [if_neg (by decide), wr_t, hfu, h14, z1]
  · unfold s_X8_toBinary
    rw [r2]
    simp only [q_let]
    rw [if_neg (by decide), wr_t, hfu, h14]
    exact ⟨r3, z2⟩
theorem tb_val (ng : Bool) (D' : rw_) (v : Int64) (v1 : f_X1_value_L5 ng D' 16 (iI (((15 : Nat) : Int) - 1)) 0 = v) : f_X1_value ng D' = v := by
  have hfu : ((14 : Int32).toInt + 1).toNat + 1 = 16 := by decide
  have h14 : (14 : Int32) = iI (((15 : Nat) : Int) - 1) := by decide
  unfold f_X1_value
  rw [hfu, h14]
  exact v1
theorem tb_go (B one one' G : rw_) (rn a : Nat) (a1 a2 a3 a4 : Int32) (e w : Bool) (s l : Int32) (R : tR) (r2 : f_X8_unpackA (uB B) one (nI a) 8 = (true, one')) (r3 : s_X8_unpackA (uB B) one (nI a) 8) (v : Int64)
    (v2 : f_X8_toBinary_L31 G (nI rn) 16 (a1, a2, a3, a4, e, w, s, l, 0, 0, R) one' (iI (((15 : Nat) : Int) - 1)) 0 = f_X8_toBinary_L31 G (nI rn) 1 (a1, a2, a3, a4, e, w, s, l, 0, 0, R) one' (-1) v) (v3 : s_X8_toBinary_L31 (nI rn) 1 (a1, a2, a3, a4, e, w, s, l, 0, 0, R) one' (-1) v → s_X8_toBinary_L31 (nI rn) 16 (a1, a2, a3, a4, e, w, s, l, 0, 0, R) one' (iI (((15 : Nat) : Int) - 1)) 0) :
    f_X8_toBinary (a1, a2, a3, a4, e, w, s, l, 0, 0, R) (uB B) one G (nI rn) (nI a) = f_X8_toBinary_L31 G (nI rn) 1 (a1, a2, a3, a4, e, w, s, l, 0, 0, R) one' (-1) v ∧ (s_X8_toBinary_L31 (nI rn) 1 (a1, a2, a3, a4, e, w, s, l, 0, 0, R) one' (-1) v → s_X8_toBinary (a1, a2, a3, a4, e, w, s, l, 0, 0, R) (uB B) one (nI rn) (nI a)) := by
  have hfu : ((14 : Int32).toInt + 1).toNat + 1 = 16 := by decide
  have h14 : (14 : Int32) = iI (((15 : Nat) : Int) - 1) := by decide
  refine ⟨?_, fun q => ?_⟩
  · unfold f_X8_toBinary
    rw [r2]
    unfold q_let
    dsimp only
    rw [if_pos rfl, wr_f, hfu, h14, v2]
  · unfold s_X8_toBinary
    rw [r2]
    unfold q_let
    dsimp only
    rw [if_pos rfl, wr_f, hfu, h14]
    exact ⟨r3, v3 q⟩
theorem tb_end (one' G : rw_) (rn : Nat) (hr : rn < 16) (a1 a2 a3 a4 : Int32) (e w : Bool) (s l : Int32) (R : tR) (v : Int64) :
    f_X8_toBinary_L31 G (nI rn) 1 (a1, a2, a3, a4, e, w, s, l, 0, 0, R) one' (-1) v = (if lg_cmp v v.toInt32.toInt64 = 0 then ((a1, a2, a3, a4, e, w, s, l, 0, 0, R), one', upd G rn v.toInt32) else ((a1, a2, a3, a4, e, w, s, l, 9, 0, R), one', G)) ∧ s_X8_toBinary_L31 (nI rn) 1 (a1, a2, a3, a4, e, w, s, l, 0, 0, R) one' (-1) v := by
  have hfit := fits_int v
  have g9 : ¬ (9 : Int32) = 0 := by decide
  have cr : (nI rn).toNatClampNeg = rn := nI_clamp (by omega)
  have vr : vp_in (nI rn) 16 := vp_in_nI (by omega) (by omega)
  rw [f_X8_toBinary_L31, s_X8_toBinary_L31, if_pos (show (-1 : Int32) < 0 by decide), if_pos (show (-1 : Int32) < 0 by decide)]
  simp only [q_let]
  by_cases k1 : 0 < lg_cmp v 2147483647
  · rw [if_pos k1, if_pos k1, wr_t, if_neg g9, if_neg g9, if_neg (fun z => (hfit.mp z).1 k1)]
    exact ⟨rfl, trivial⟩
  · by_cases k2 : 0 ≤ lg_cmp v (-2147483648)
    · rw [if_neg k1, if_neg k1, if_pos k2, if_pos k2, wr_f, cr, if_pos (hfit.mpr ⟨k1, k2⟩)]
      simp only [↓reduceIte]
      exact ⟨trivial, vr⟩
    · rw [if_neg k1, if_neg k1, if_neg k2, if_neg k2, wr_t, if_neg g9, if_neg g9, if_neg (fun z => k2 (hfit.mp z).2)]
      exact ⟨rfl, trivial⟩
theorem rx_79 : RXok 79 := by
  intro x1 x2 x3 x4 imm sx opl rn a F Fd G B K one a1 a2 a3 a4 e w s l R hr ha hw hK
  have vr : vp_in (nI rn) 16 := vp_in_nI (by omega) (by omega)
  have cr : (nI rn).toNatClampNeg = rn := nI_clamp (by omega)
  have ca : (nI a).toNatClampNeg = a := nI_clamp (by omega)
  have hsz : f_X8_sizeOf 79 = 8 := by decide
  have ham : f_X8_among 79 64 66 78 80 = false := by decide
  have gg := goodR K a 8 8 3 8 8 (by decide) (by decide) ha (by omega) (by omega) (by decide) (by omega) a1 a2 a3 a4 e w s l 0 R
  obtain ⟨gd, gs⟩ := gg
  rcases gd with ⟨g1, g2, g3, g4⟩ | ⟨c, c0, c1, g1, g2⟩
  · obtain ⟨ok, ng, D', one', r1, r2, r3, r4⟩ := rdA F Fd B a 8 (by omega) (by omega) (by omega) one
    rw [← show (8 : Int32) = nI 8 by decide] at r1 r2 r3
    cases ok with
    | false =>
      obtain ⟨hm0, hs0⟩ := tb_bad B one one' G rn a a1 a2 a3 a4 e w s l R r2 r3
      have h70 : ¬ false = true := by decide
      have hc : f_X3_doRx (x1, x2, x3, x4, 79, imm, nI rn, sx, nI a, opl) F Fd G (a1, a2, a3, a4) B K = (7, ng, D', G, (a1, a2, a3, a4), B) := by
        simp (decide := true) only [f_X3_doRx, f_X3_convertToInt, g1, r1, if_neg h70, q_let, ↓reduceIte]
      have hm : f_X8_doIndexed (a1, a2, a3, a4, e, w, s, l, 0, 0, R) (uB B) K one G 79 (nI rn) (nI a) = ((a1, a2, a3, a4, e, w, s, l, 7, 0, R), uB (B), one', G) := by
        simp (decide := true) only [f_X8_doIndexed, hsz, ham, g2, hm0, q_let, ↓reduceIte]
      have hss : s_X8_doIndexed (a1, a2, a3, a4, e, w, s, l, 0, 0, R) (uB B) K one G 79 (nI rn) (nI a) := by
        simp (decide := true) only [s_X8_doIndexed, hsz, ham, g2, gs, hs0, vr, and_self, true_and, and_true, q_let, ↓reduceIte]
      exact ⟨_, _, _, _, _, _, _, _, _, _, hc, hm, Res_bad (by decide) hw hK, hss⟩
    | true =>
      obtain ⟨d, d1, d2, d3, d4, d5, d6⟩ := r4 rfl
      obtain ⟨c', v1, v2, v3⟩ := val_loop ng D' one' d d1 d4 d5 G (nI rn) (a1, a2, a3, a4, e, w, s, l, 0, 0, R) 15 16 0 (by omega) (by omega)
      rw [show lI 0 = 0 by decide] at v1
      have hl0 : lI (sg ng * 0) = 0 := by rw [Int.mul_zero]; decide
      rw [hl0] at v2 v3
      obtain ⟨v, hvv⟩ : ∃ v, v = lI (sg ng * c') := ⟨_, rfl⟩
      rw [← hvv] at v1 v2 v3
      have hv := tb_val ng D' v v1
      obtain ⟨hm1, hs1⟩ := tb_go B one one' G rn a a1 a2 a3 a4 e w s l R r2 r3 v v2 v3
      obtain ⟨hm2, hs2⟩ := tb_end one' G rn hr a1 a2 a3 a4 e w s l R v
      have hs0 := hs1 hs2
      rw [hm2] at hm1
      by_cases k3 : lg_cmp v v.toInt32.toInt64 = 0
      · rw [if_pos k3] at hm1
        have hc : f_X3_doRx (x1, x2, x3, x4, 79, imm, nI rn, sx, nI a, opl) F Fd G (a1, a2, a3, a4) B K = (0, ng, D', upd G rn v.toInt32, (a1, a2, a3, a4), B) := by
          simp (decide := true) only [f_X3_doRx, f_X3_convertToInt, g1, r1, hv, if_pos k3, preg_in _ _ hr, q_let, ↓reduceIte]
        have hm : f_X8_doIndexed (a1, a2, a3, a4, e, w, s, l, 0, 0, R) (uB B) K one G 79 (nI rn) (nI a) = ((a1, a2, a3, a4, e, w, s, l, 0, 0, R), uB (B), one', upd G rn v.toInt32) := by
          simp (decide := true) only [f_X8_doIndexed, hsz, ham, g2, hm1, q_let, ↓reduceIte]
        have hss : s_X8_doIndexed (a1, a2, a3, a4, e, w, s, l, 0, 0, R) (uB B) K one G 79 (nI rn) (nI a) := by
          simp (decide := true) only [s_X8_doIndexed, hsz, ham, g2, gs, hs0, vr, and_self, true_and, and_true, q_let, ↓reduceIte]
        exact ⟨_, _, _, _, _, _, _, _, _, _, hc, hm, Res_ok hw hK, hss⟩
      · rw [if_neg k3] at hm1
        have hc : f_X3_doRx (x1, x2, x3, x4, 79, imm, nI rn, sx, nI a, opl) F Fd G (a1, a2, a3, a4) B K = (9, ng, D', G, (a1, a2, a3, a4), B) := by
          simp (decide := true) only [f_X3_doRx, f_X3_convertToInt, g1, r1, hv, if_neg k3, q_let, ↓reduceIte]
        have hm : f_X8_doIndexed (a1, a2, a3, a4, e, w, s, l, 0, 0, R) (uB B) K one G 79 (nI rn) (nI a) = ((a1, a2, a3, a4, e, w, s, l, 9, 0, R), uB (B), one', G) := by
          simp (decide := true) only [f_X8_doIndexed, hsz, ham, g2, hm1, q_let, ↓reduceIte]
        have hss : s_X8_doIndexed (a1, a2, a3, a4, e, w, s, l, 0, 0, R) (uB B) K one G 79 (nI rn) (nI a) := by
          simp (decide := true) only [s_X8_doIndexed, hsz, ham, g2, gs, hs0, vr, and_self, true_and, and_true, q_let, ↓reduceIte]
        exact ⟨_, _, _, _, _, _, _, _, _, _, hc, hm, Res_bad (by decide) hw hK, hss⟩
  · have hc : f_X3_doRx (x1, x2, x3, x4, 79, imm, nI rn, sx, nI a, opl) F Fd G (a1, a2, a3, a4) B K = (c, F, Fd, G, (a1, a2, a3, a4), B) := by
      simp (decide := true) only [f_X3_doRx, f_X3_convertToInt, g1, if_neg c0, q_let, ↓reduceIte]
    have hm : f_X8_doIndexed (a1, a2, a3, a4, e, w, s, l, 0, 0, R) (uB B) K one G 79 (nI rn) (nI a) = ((a1, a2, a3, a4, e, w, s, l, c, 0, R), uB (B), one, G) := by
      simp (decide := true) only [f_X8_doIndexed, hsz, ham, g2, q_let, ↓reduceIte]
    have hss : s_X8_doIndexed (a1, a2, a3, a4, e, w, s, l, 0, 0, R) (uB B) K one G 79 (nI rn) (nI a) := by
      simp (decide := true) only [s_X8_doIndexed, hsz, ham, g2, gs, vr, and_self, true_and, and_true, q_let, ↓reduceIte]
    exact ⟨_, _, _, _, _, _, _, _, _, _, hc, hm, Res_bad c1 hw hK, hss⟩
