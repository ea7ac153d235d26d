/-! the instructions of two bytes -/
theorem Res_ok {c : Int32} {G' B' K' : rw_} {b1 b2 b3 b4 : Int32} {e w : Bool} {s l : Int32} {R : tR} (h : Wf b1 b2 b3 b4) (hK : ∀ i, rg (K' i) 16) : Res c G' (b1, b2, b3, b4) B' K' (b1, b2, b3, b4, e, w, s, l, 0, c, R) (uB B') K' G' e w s l R := ⟨b1, b2, b3, b4, 0, c, rfl, rfl, h, rfl, rfl, hK, rfl, if_pos (by decide)⟩
theorem Res_bad {c t : Int32} {G' B' K' : rw_} {b1 b2 b3 b4 : Int32} {e w : Bool} {s l : Int32} {R : tR} (hc : ¬ c ≤ 0) (h : Wf b1 b2 b3 b4) (hK : ∀ i, rg (K' i) 16) : Res c G' (b1, b2, b3, b4) B' K' (b1, b2, b3, b4, e, w, s, l, c, t, R) (uB B') K' G' e w s l R := ⟨b1, b2, b3, b4, c, t, rfl, rfl, h, rfl, rfl, hK, rfl, if_neg hc⟩
theorem Wf_cc {a1 a2 a3 a4 b3 : Int32} (h : Wf a1 a2 a3 a4) (h3 : rg b3 4) : Wf a1 a2 b3 a4 := ⟨h.1, h.2.1, h3, h.2.2.2⟩
theorem Wf_go {a1 a2 a3 a4 : Int32} (h : Wf a1 a2 a3 a4) (x : Int32) : Wf a1 a2 a3 (x &&& (65535 : Int32)) := ⟨h.1, h.2.1, h.2.2.1, rg_and 16 65536 (by decide) (by omega) rfl⟩
def RRok (op : Int32) : Prop := ∀ (x1 : Bool) (x2 x3 x4 pl opl : Int32) (rn sn : Nat) (G B K : rw_) (a1 a2 a3 a4 : Int32) (e w : Bool) (s l : Int32) (R : tR), rn < 16 → sn < 16 → Wf a1 a2 a3 a4 → (∀ i, rg (K i) 16) →
  ∃ code G' T' B' K' o' b' keys' reg', f_X3_doRr (x1, x2, x3, x4, op, nI (rn * 16 + sn), nI rn, nI sn, pl, opl) G (a1, a2, a3, a4) B K = (code, G', T', B', K') ∧ f_X8_doRegisters (a1, a2, a3, a4, e, w, s, l, 0, 0, R) (uB B) K G op (nI rn) (nI sn) = (o', b', keys', reg') ∧ Res code G' T' B' K' o' b' keys' reg' e w s l R ∧ s_X8_doRegisters (a1, a2, a3, a4, e, w, s, l, 0, 0, R) (uB B) G op (nI rn) (nI sn)
theorem rr_5 : RRok 5 := by
  intro x1 x2 x3 x4 pl opl rn sn G B K a1 a2 a3 a4 e w s l R hr hs hw hK
  have vr : vp_in (nI rn) 16 := vp_in_nI (by omega) (by omega)
  have vs : vp_in (nI sn) 16 := vp_in_nI (by omega) (by omega)
  have cr : (nI rn).toNatClampNeg = rn := nI_clamp (by omega)
  have cs : (nI sn).toNatClampNeg = sn := nI_clamp (by omega)
  by_cases c : sn = 0
  · have hz : nI sn = 0 := by rw [c]; rfl
    have hz2 : nI sn ≤ 0 := by rw [hz]; decide
    have hc : f_X3_doRr (x1, x2, x3, x4, 5, nI (rn * 16 + sn), nI rn, nI sn, pl, opl) G (a1, a2, a3, a4) B K = (0, upd G rn a4, (a1, a2, a3, a4), B, K) := by
      simp (decide := true) only [f_X3_doRr, f_X3_linkToRegister, preg_in _ _ hr, if_pos hz, q_let, ↓reduceIte]
    have hm : f_X8_doRegisters (a1, a2, a3, a4, e, w, s, l, 0, 0, R) (uB B) K G 5 (nI rn) (nI sn) = ((a1, a2, a3, a4, e, w, s, l, 0, 0, R), uB (B), K, upd G rn a4) := by
      simp (decide := true) only [f_X8_doRegisters, f_X8_control, wr_f, cr, if_pos hz2, q_let, ↓reduceIte]
    have hss : s_X8_doRegisters (a1, a2, a3, a4, e, w, s, l, 0, 0, R) (uB B) G 5 (nI rn) (nI sn) := by
      simp (decide := true) only [s_X8_doRegisters, s_X8_control, wr_f, vr, vs, and_self, true_and, and_true, q_let, ↓reduceIte]
    exact ⟨_, _, _, _, _, _, _, _, _, hc, hm, Res_ok hw hK, hss⟩
  · have hz : ¬ nI sn = 0 := nI_ne0 (by omega) (by omega)
    have hz2 : ¬ nI sn ≤ 0 := nI_nle (by omega) (by omega)
    have hc : f_X3_doRr (x1, x2, x3, x4, 5, nI (rn * 16 + sn), nI rn, nI sn, pl, opl) G (a1, a2, a3, a4) B K = (0, upd G rn a4, (a1, a2, a3, G sn &&& (65535 : Int32)), B, K) := by
      simp (decide := true) only [f_X3_doRr, f_X3_linkToRegister, f_X5_goTo, preg_in _ _ hr, reg_in _ _ hs, if_neg hz, q_let, ↓reduceIte]
    have hm : f_X8_doRegisters (a1, a2, a3, a4, e, w, s, l, 0, 0, R) (uB B) K G 5 (nI rn) (nI sn) = ((a1, a2, a3, G sn &&& (65535 : Int32), e, w, s, l, 0, 0, R), uB (B), K, upd G rn a4) := by
      simp (decide := true) only [f_X8_doRegisters, f_X8_control, f_X8_go, wr_f, cr, cs, if_neg hz2, q_let, ↓reduceIte]
    have hss : s_X8_doRegisters (a1, a2, a3, a4, e, w, s, l, 0, 0, R) (uB B) G 5 (nI rn) (nI sn) := by
      simp (decide := true) only [s_X8_doRegisters, s_X8_control, wr_f, vr, vs, and_self, true_and, and_true, q_let, ↓reduceIte]
    exact ⟨_, _, _, _, _, _, _, _, _, hc, hm, Res_ok (Wf_go hw _) hK, hss⟩
theorem rr_7 : RRok 7 := by
  intro x1 x2 x3 x4 pl opl rn sn G B K a1 a2 a3 a4 e w s l R hr hs hw hK
  have vr : vp_in (nI rn) 16 := vp_in_nI (by omega) (by omega)
  have vs : vp_in (nI sn) 16 := vp_in_nI (by omega) (by omega)
  have cr : (nI rn).toNatClampNeg = rn := nI_clamp (by omega)
  have cs : (nI sn).toNatClampNeg = sn := nI_clamp (by omega)
  by_cases c : sn = 0
  · have hz : nI sn = 0 := by rw [c]; rfl
    have hz2 : nI sn ≤ 0 := by rw [hz]; decide
    have hc : f_X3_doRr (x1, x2, x3, x4, 7, nI (rn * 16 + sn), nI rn, nI sn, pl, opl) G (a1, a2, a3, a4) B K = (0, G, (a1, a2, a3, a4), B, K) := by
      simp (decide := true) only [f_X3_doRr, if_pos hz, q_let, ↓reduceIte]
    have hm : f_X8_doRegisters (a1, a2, a3, a4, e, w, s, l, 0, 0, R) (uB B) K G 7 (nI rn) (nI sn) = ((a1, a2, a3, a4, e, w, s, l, 0, 0, R), uB (B), K, G) := by
      simp (decide := true) only [f_X8_doRegisters, f_X8_control, wr_f, cr, if_pos hz2, q_let, ↓reduceIte]
    have hss : s_X8_doRegisters (a1, a2, a3, a4, e, w, s, l, 0, 0, R) (uB B) G 7 (nI rn) (nI sn) := by
      simp (decide := true) only [s_X8_doRegisters, s_X8_control, wr_f, vr, vs, and_self, true_and, and_true, q_let, ↓reduceIte]
    exact ⟨_, _, _, _, _, _, _, _, _, hc, hm, Res_ok hw hK, hss⟩
  · have hz : ¬ nI sn = 0 := nI_ne0 (by omega) (by omega)
    have hz2 : ¬ nI sn ≤ 0 := nI_nle (by omega) (by omega)
    obtain ⟨cn, hcn, ecn⟩ := rg_nI (n := 4) hw.2.2.1 (by omega)
    have hh := hold_iff rn hr cn hcn
    rw [← ecn] at hh
    by_cases c1 : (nI rn &&& ((8 : Int32) >>> (a3 &&& 31))) = 0
    · have c2 : f_X8_holds (a1, a2, a3, a4, e, w, s, l, 0, 0, R) (nI rn) = false := if_neg (hh.mp c1)
      have hc : f_X3_doRr (x1, x2, x3, x4, 7, nI (rn * 16 + sn), nI rn, nI sn, pl, opl) G (a1, a2, a3, a4) B K = (0, G, (a1, a2, a3, a4), B, K) := by
        simp (decide := true) only [f_X3_doRr, f_X3_branchIfAsked, if_neg hz, if_pos c1, q_let, ↓reduceIte]
      have hm : f_X8_doRegisters (a1, a2, a3, a4, e, w, s, l, 0, 0, R) (uB B) K G 7 (nI rn) (nI sn) = ((a1, a2, a3, a4, e, w, s, l, 0, 0, R), uB (B), K, G) := by
        simp (decide := true) only [f_X8_doRegisters, f_X8_control, wr_f, if_neg hz2, c2, q_let, ↓reduceIte]
      have hss : s_X8_doRegisters (a1, a2, a3, a4, e, w, s, l, 0, 0, R) (uB B) G 7 (nI rn) (nI sn) := by
        simp (decide := true) only [s_X8_doRegisters, s_X8_control, wr_f, vr, vs, and_self, true_and, and_true, q_let, ↓reduceIte]
      exact ⟨_, _, _, _, _, _, _, _, _, hc, hm, Res_ok hw hK, hss⟩
    · have c2 : f_X8_holds (a1, a2, a3, a4, e, w, s, l, 0, 0, R) (nI rn) = true := if_pos (Classical.byContradiction fun q => c1 (hh.mpr q))
      have hc : f_X3_doRr (x1, x2, x3, x4, 7, nI (rn * 16 + sn), nI rn, nI sn, pl, opl) G (a1, a2, a3, a4) B K = (0, G, (a1, a2, a3, G sn &&& (65535 : Int32)), B, K) := by
        simp (decide := true) only [f_X3_doRr, f_X3_branchIfAsked, f_X5_goTo, reg_in _ _ hs, if_neg hz, if_neg c1, q_let, ↓reduceIte]
      have hm : f_X8_doRegisters (a1, a2, a3, a4, e, w, s, l, 0, 0, R) (uB B) K G 7 (nI rn) (nI sn) = ((a1, a2, a3, G sn &&& (65535 : Int32), e, w, s, l, 0, 0, R), uB (B), K, G) := by
        simp (decide := true) only [f_X8_doRegisters, f_X8_control, f_X8_go, wr_f, cs, if_neg hz2, c2, q_let, ↓reduceIte]
      have hss : s_X8_doRegisters (a1, a2, a3, a4, e, w, s, l, 0, 0, R) (uB B) G 7 (nI rn) (nI sn) := by
        simp (decide := true) only [s_X8_doRegisters, s_X8_control, wr_f, vr, vs, and_self, true_and, and_true, q_let, ↓reduceIte]
      exact ⟨_, _, _, _, _, _, _, _, _, hc, hm, Res_ok (Wf_go hw _) hK, hss⟩
theorem rr_8 : RRok 8 := by
  intro x1 x2 x3 x4 pl opl rn sn G B K a1 a2 a3 a4 e w s l R hr hs hw hK
  have vr : vp_in (nI rn) 16 := vp_in_nI (by omega) (by omega)
  have vs : vp_in (nI sn) 16 := vp_in_nI (by omega) (by omega)
  have cr : (nI rn).toNatClampNeg = rn := nI_clamp (by omega)
  have cs : (nI sn).toNatClampNeg = sn := nI_clamp (by omega)
  obtain ⟨j, hj, j1, j2⟩ := blk_eq (G sn)
  have j3 : (nI j &&& (7 : Int32)).toNatClampNeg = j := by rw [pk_andN (by omega) 3 (by decide), nI_clamp (by omega)]; omega
  have j4 : (nI j).toNatClampNeg = j := nI_clamp (by omega)
  have vj : vp_in (nI j) 8 := vp_in_nI (by omega) (by omega)
  have hK2 : ∀ i, rg ((upd K j ((G rn >>> ((4 : Int32) &&& 31)) &&& (15 : Int32))) i) 16 := by
    intro i
    by_cases z : i = j
    · rw [z, pk_us]; exact rg_and 4 16 (by decide) (by omega) rfl
    · rw [pk_un z]; exact hK i
  have hc : f_X3_doRr (x1, x2, x3, x4, 8, nI (rn * 16 + sn), nI rn, nI sn, pl, opl) G (a1, a2, a3, a4) B K = (0, G, (a1, a2, a3, a4), B, upd K j ((G rn >>> ((4 : Int32) &&& 31)) &&& (15 : Int32))) := by
    simp (decide := true) only [f_X3_doRr, f_X3_putBlockKey, f_X3_blockInRegister, f_X6_putKey, reg_in _ _ hr, reg_in _ _ hs, j1, j3, q_let, ↓reduceIte]
  have hm : f_X8_doRegisters (a1, a2, a3, a4, e, w, s, l, 0, 0, R) (uB B) K G 8 (nI rn) (nI sn) = ((a1, a2, a3, a4, e, w, s, l, 0, 0, R), uB (B), upd K j ((G rn >>> ((4 : Int32) &&& 31)) &&& (15 : Int32)), G) := by
    simp (decide := true) only [f_X8_doRegisters, f_X8_control, wr_f, cr, cs, j2, j4, q_let, ↓reduceIte]
  have hss : s_X8_doRegisters (a1, a2, a3, a4, e, w, s, l, 0, 0, R) (uB B) G 8 (nI rn) (nI sn) := by
    simp (decide := true) only [s_X8_doRegisters, s_X8_control, wr_f, cs, j2, vj, vr, vs, and_self, true_and, and_true, q_let, ↓reduceIte]
  exact ⟨_, _, _, _, _, _, _, _, _, hc, hm, Res_ok hw hK2, hss⟩
theorem rr_9 : RRok 9 := by
  intro x1 x2 x3 x4 pl opl rn sn G B K a1 a2 a3 a4 e w s l R hr hs hw hK
  have vr : vp_in (nI rn) 16 := vp_in_nI (by omega) (by omega)
  have vs : vp_in (nI sn) 16 := vp_in_nI (by omega) (by omega)
  have cr : (nI rn).toNatClampNeg = rn := nI_clamp (by omega)
  have cs : (nI sn).toNatClampNeg = sn := nI_clamp (by omega)
  obtain ⟨j, hj, j1, j2⟩ := blk_eq (G sn)
  have j3 : (nI j &&& (7 : Int32)).toNatClampNeg = j := by rw [pk_andN (by omega) 3 (by decide), nI_clamp (by omega)]; omega
  have j4 : (nI j).toNatClampNeg = j := nI_clamp (by omega)
  have vj : vp_in (nI j) 8 := vp_in_nI (by omega) (by omega)
  obtain ⟨kn, hkn, ekn⟩ := rg_nI (n := 16) (hK j) (by omega)
  have k1 : nI kn * (16 : Int32) = nI (kn * 16) := pk_mul kn 16
  have k2 : (16 : Int32) * nI kn = nI (kn * 16) := by rw [Nat.mul_comm]; exact pk_mul 16 kn
  have k3 := or_low (G rn) (y := kn * 16) (by omega)
  have hc : f_X3_doRr (x1, x2, x3, x4, 9, nI (rn * 16 + sn), nI rn, nI sn, pl, opl) G (a1, a2, a3, a4) B K = (0, upd G rn ((G rn &&& (-256 : Int32)) + nI (kn * 16)), (a1, a2, a3, a4), B, K) := by
    simp (decide := true) only [f_X3_doRr, f_X3_takeBlockKey, f_X3_blockInRegister, f_X6_keyOfBlock, preg_in _ _ hr, reg_in _ _ hr, reg_in _ _ hs, j1, j3, ekn, k1, k3, q_let, ↓reduceIte]
  have hm : f_X8_doRegisters (a1, a2, a3, a4, e, w, s, l, 0, 0, R) (uB B) K G 9 (nI rn) (nI sn) = ((a1, a2, a3, a4, e, w, s, l, 0, 0, R), uB (B), K, upd G rn ((G rn &&& (-256 : Int32)) + nI (kn * 16))) := by
    simp (decide := true) only [f_X8_doRegisters, f_X8_control, wr_f, cr, cs, j2, j4, ekn, k2, q_let, ↓reduceIte]
  have hss : s_X8_doRegisters (a1, a2, a3, a4, e, w, s, l, 0, 0, R) (uB B) G 9 (nI rn) (nI sn) := by
    simp (decide := true) only [s_X8_doRegisters, s_X8_control, wr_f, cs, j2, vj, vr, vs, and_self, true_and, and_true, q_let, ↓reduceIte]
  exact ⟨_, _, _, _, _, _, _, _, _, hc, hm, Res_ok hw hK, hss⟩
theorem rr_10 : RRok 10 := by
  intro x1 x2 x3 x4 pl opl rn sn G B K a1 a2 a3 a4 e w s l R hr hs hw hK
  have vr : vp_in (nI rn) 16 := vp_in_nI (by omega) (by omega)
  have vs : vp_in (nI sn) 16 := vp_in_nI (by omega) (by omega)
  have cr : (nI rn).toNatClampNeg = rn := nI_clamp (by omega)
  have cs : (nI sn).toNatClampNeg = sn := nI_clamp (by omega)
  obtain ⟨b1, b2, b3, b4, B', i1, i2, i3, i4⟩ := intr_eq B 32 96 (by omega) (by omega) (nI (rn * 16 + sn)) a1 a2 a3 a4 e w s l 0 0 R hw
  have k1 : (16 : Int32) * nI rn + nI sn = nI (rn * 16 + sn) := by rw [show (16 : Int32) * nI rn = nI (16 * rn) from pk_mul 16 rn, nI_add, Nat.mul_comm]
  have l32 : (32 : Int32) = nI 32 := by decide
  have l96 : (96 : Int32) = nI 96 := by decide
  have hc : f_X3_doRr (x1, x2, x3, x4, 10, nI (rn * 16 + sn), nI rn, nI sn, pl, opl) G (a1, a2, a3, a4) B K = (0, G, (b1, b2, b3, b4), B', K) := by
    simp (decide := true) only [f_X3_doRr, f_X3_callSupervisor, q_let, ↓reduceIte, l32, l96, i1]
  have hm : f_X8_doRegisters (a1, a2, a3, a4, e, w, s, l, 0, 0, R) (uB B) K G 10 (nI rn) (nI sn) = ((b1, b2, b3, b4, e, w, s, l, 0, 0, R), uB B', K, G) := by
    simp (decide := true) only [f_X8_doRegisters, f_X8_control, q_let, wr_f, ↓reduceIte, k1, l32, l96, i2]
  have hss : s_X8_doRegisters (a1, a2, a3, a4, e, w, s, l, 0, 0, R) (uB B) G 10 (nI rn) (nI sn) := by
    simp (decide := true) only [s_X8_doRegisters, s_X8_control, q_let, wr_f, ↓reduceIte, k1, l32, l96, i4, vr, vs, and_self]
  exact ⟨_, _, _, _, _, _, _, _, _, hc, hm, Res_ok i3 hK, hss⟩
theorem rr_18 : RRok 18 := by
  intro x1 x2 x3 x4 pl opl rn sn G B K a1 a2 a3 a4 e w s l R hr hs hw hK
  have vr : vp_in (nI rn) 16 := vp_in_nI (by omega) (by omega)
  have vs : vp_in (nI sn) 16 := vp_in_nI (by omega) (by omega)
  have cr : (nI rn).toNatClampNeg = rn := nI_clamp (by omega)
  have cs : (nI sn).toNatClampNeg = sn := nI_clamp (by omega)
  have hc : f_X3_doRr (x1, x2, x3, x4, 18, nI (rn * 16 + sn), nI rn, nI sn, pl, opl) G (a1, a2, a3, a4) B K = (0, upd G rn (G sn), (a1, a2, od (G sn).toInt 0, a4), B, K) := by
    simp (decide := true) only [f_X3_doRr, f_X3_loadAndTest, preg_in _ _ hr, reg_in _ _ hr, reg_in _ _ hs, pk_us, order0, q_let, ↓reduceIte]
  have hm : f_X8_doRegisters (a1, a2, a3, a4, e, w, s, l, 0, 0, R) (uB B) K G 18 (nI rn) (nI sn) = ((a1, a2, od (G sn).toInt 0, a4, e, w, s, l, 0, 0, R), uB (B), K, upd G rn (G sn)) := by
    simp (decide := true) only [f_X8_doRegisters, wr_f, cr, cs, sign_eq, Int32.toInt_toInt64, q_let, ↓reduceIte]
  have hss : s_X8_doRegisters (a1, a2, a3, a4, e, w, s, l, 0, 0, R) (uB B) G 18 (nI rn) (nI sn) := by
    simp (decide := true) only [s_X8_doRegisters, wr_f, vr, vs, and_self, true_and, and_true, q_let, ↓reduceIte]
  exact ⟨_, _, _, _, _, _, _, _, _, hc, hm, Res_ok (Wf_cc hw (od_rg _ _)) hK, hss⟩
theorem rr_20 : RRok 20 := by
  intro x1 x2 x3 x4 pl opl rn sn G B K a1 a2 a3 a4 e w s l R hr hs hw hK
  have vr : vp_in (nI rn) 16 := vp_in_nI (by omega) (by omega)
  have vs : vp_in (nI sn) 16 := vp_in_nI (by omega) (by omega)
  have cr : (nI rn).toNatClampNeg = rn := nI_clamp (by omega)
  have cs : (nI sn).toNatClampNeg = sn := nI_clamp (by omega)
  by_cases c : (G rn &&& G sn) = 0
  · have hc : f_X3_doRr (x1, x2, x3, x4, 20, nI (rn * 16 + sn), nI rn, nI sn, pl, opl) G (a1, a2, a3, a4) B K = (0, upd G rn (G rn &&& G sn), (a1, a2, 0, a4), B, K) := by
      simp (decide := true) only [f_X3_doRr, f_X3_putLogical, preg_in _ _ hr, reg_in _ _ hr, reg_in _ _ hs, if_pos c, q_let, ↓reduceIte]
    have hm : f_X8_doRegisters (a1, a2, a3, a4, e, w, s, l, 0, 0, R) (uB B) K G 20 (nI rn) (nI sn) = ((a1, a2, 0, a4, e, w, s, l, 0, 0, R), uB (B), K, upd G rn (G rn &&& G sn)) := by
      simp (decide := true) only [f_X8_doRegisters, wr_f, cr, cs, f_X8_logic, if_pos c, q_let, ↓reduceIte]
    have hss : s_X8_doRegisters (a1, a2, a3, a4, e, w, s, l, 0, 0, R) (uB B) G 20 (nI rn) (nI sn) := by
      simp (decide := true) only [s_X8_doRegisters, wr_f, cr, cs, vr, vs, and_self, true_and, and_true, q_let, ↓reduceIte]
    exact ⟨_, _, _, _, _, _, _, _, _, hc, hm, Res_ok (Wf_cc hw ⟨by decide, by decide⟩) hK, hss⟩
  · have hc : f_X3_doRr (x1, x2, x3, x4, 20, nI (rn * 16 + sn), nI rn, nI sn, pl, opl) G (a1, a2, a3, a4) B K = (0, upd G rn (G rn &&& G sn), (a1, a2, 1, a4), B, K) := by
      simp (decide := true) only [f_X3_doRr, f_X3_putLogical, preg_in _ _ hr, reg_in _ _ hr, reg_in _ _ hs, if_neg c, q_let, ↓reduceIte]
    have hm : f_X8_doRegisters (a1, a2, a3, a4, e, w, s, l, 0, 0, R) (uB B) K G 20 (nI rn) (nI sn) = ((a1, a2, 1, a4, e, w, s, l, 0, 0, R), uB (B), K, upd G rn (G rn &&& G sn)) := by
      simp (decide := true) only [f_X8_doRegisters, wr_f, cr, cs, f_X8_logic, if_neg c, q_let, ↓reduceIte]
    have hss : s_X8_doRegisters (a1, a2, a3, a4, e, w, s, l, 0, 0, R) (uB B) G 20 (nI rn) (nI sn) := by
      simp (decide := true) only [s_X8_doRegisters, wr_f, cr, cs, vr, vs, and_self, true_and, and_true, q_let, ↓reduceIte]
    exact ⟨_, _, _, _, _, _, _, _, _, hc, hm, Res_ok (Wf_cc hw ⟨by decide, by decide⟩) hK, hss⟩
theorem rr_22 : RRok 22 := by
  intro x1 x2 x3 x4 pl opl rn sn G B K a1 a2 a3 a4 e w s l R hr hs hw hK
  have vr : vp_in (nI rn) 16 := vp_in_nI (by omega) (by omega)
  have vs : vp_in (nI sn) 16 := vp_in_nI (by omega) (by omega)
  have cr : (nI rn).toNatClampNeg = rn := nI_clamp (by omega)
  have cs : (nI sn).toNatClampNeg = sn := nI_clamp (by omega)
  by_cases c : (G rn ||| G sn) = 0
  · have hc : f_X3_doRr (x1, x2, x3, x4, 22, nI (rn * 16 + sn), nI rn, nI sn, pl, opl) G (a1, a2, a3, a4) B K = (0, upd G rn (G rn ||| G sn), (a1, a2, 0, a4), B, K) := by
      simp (decide := true) only [f_X3_doRr, f_X3_putLogical, preg_in _ _ hr, reg_in _ _ hr, reg_in _ _ hs, if_pos c, q_let, ↓reduceIte]
    have hm : f_X8_doRegisters (a1, a2, a3, a4, e, w, s, l, 0, 0, R) (uB B) K G 22 (nI rn) (nI sn) = ((a1, a2, 0, a4, e, w, s, l, 0, 0, R), uB (B), K, upd G rn (G rn ||| G sn)) := by
      simp (decide := true) only [f_X8_doRegisters, wr_f, cr, cs, f_X8_logic, if_pos c, q_let, ↓reduceIte]
    have hss : s_X8_doRegisters (a1, a2, a3, a4, e, w, s, l, 0, 0, R) (uB B) G 22 (nI rn) (nI sn) := by
      simp (decide := true) only [s_X8_doRegisters, wr_f, cr, cs, vr, vs, and_self, true_and, and_true, q_let, ↓reduceIte]
    exact ⟨_, _, _, _, _, _, _, _, _, hc, hm, Res_ok (Wf_cc hw ⟨by decide, by decide⟩) hK, hss⟩
  · have hc : f_X3_doRr (x1, x2, x3, x4, 22, nI (rn * 16 + sn), nI rn, nI sn, pl, opl) G (a1, a2, a3, a4) B K = (0, upd G rn (G rn ||| G sn), (a1, a2, 1, a4), B, K) := by
      simp (decide := true) only [f_X3_doRr, f_X3_putLogical, preg_in _ _ hr, reg_in _ _ hr, reg_in _ _ hs, if_neg c, q_let, ↓reduceIte]
    have hm : f_X8_doRegisters (a1, a2, a3, a4, e, w, s, l, 0, 0, R) (uB B) K G 22 (nI rn) (nI sn) = ((a1, a2, 1, a4, e, w, s, l, 0, 0, R), uB (B), K, upd G rn (G rn ||| G sn)) := by
      simp (decide := true) only [f_X8_doRegisters, wr_f, cr, cs, f_X8_logic, if_neg c, q_let, ↓reduceIte]
    have hss : s_X8_doRegisters (a1, a2, a3, a4, e, w, s, l, 0, 0, R) (uB B) G 22 (nI rn) (nI sn) := by
      simp (decide := true) only [s_X8_doRegisters, wr_f, cr, cs, vr, vs, and_self, true_and, and_true, q_let, ↓reduceIte]
    exact ⟨_, _, _, _, _, _, _, _, _, hc, hm, Res_ok (Wf_cc hw ⟨by decide, by decide⟩) hK, hss⟩
theorem rr_23 : RRok 23 := by
  intro x1 x2 x3 x4 pl opl rn sn G B K a1 a2 a3 a4 e w s l R hr hs hw hK
  have vr : vp_in (nI rn) 16 := vp_in_nI (by omega) (by omega)
  have vs : vp_in (nI sn) 16 := vp_in_nI (by omega) (by omega)
  have cr : (nI rn).toNatClampNeg = rn := nI_clamp (by omega)
  have cs : (nI sn).toNatClampNeg = sn := nI_clamp (by omega)
  by_cases c : (G rn ^^^ G sn) = 0
  · have hc : f_X3_doRr (x1, x2, x3, x4, 23, nI (rn * 16 + sn), nI rn, nI sn, pl, opl) G (a1, a2, a3, a4) B K = (0, upd G rn (G rn ^^^ G sn), (a1, a2, 0, a4), B, K) := by
      simp (decide := true) only [f_X3_doRr, f_X3_putLogical, preg_in _ _ hr, reg_in _ _ hr, reg_in _ _ hs, if_pos c, q_let, ↓reduceIte]
    have hm : f_X8_doRegisters (a1, a2, a3, a4, e, w, s, l, 0, 0, R) (uB B) K G 23 (nI rn) (nI sn) = ((a1, a2, 0, a4, e, w, s, l, 0, 0, R), uB (B), K, upd G rn (G rn ^^^ G sn)) := by
      simp (decide := true) only [f_X8_doRegisters, wr_f, cr, cs, f_X8_logic, if_pos c, q_let, ↓reduceIte]
    have hss : s_X8_doRegisters (a1, a2, a3, a4, e, w, s, l, 0, 0, R) (uB B) G 23 (nI rn) (nI sn) := by
      simp (decide := true) only [s_X8_doRegisters, wr_f, cr, cs, vr, vs, and_self, true_and, and_true, q_let, ↓reduceIte]
    exact ⟨_, _, _, _, _, _, _, _, _, hc, hm, Res_ok (Wf_cc hw ⟨by decide, by decide⟩) hK, hss⟩
  · have hc : f_X3_doRr (x1, x2, x3, x4, 23, nI (rn * 16 + sn), nI rn, nI sn, pl, opl) G (a1, a2, a3, a4) B K = (0, upd G rn (G rn ^^^ G sn), (a1, a2, 1, a4), B, K) := by
      simp (decide := true) only [f_X3_doRr, f_X3_putLogical, preg_in _ _ hr, reg_in _ _ hr, reg_in _ _ hs, if_neg c, q_let, ↓reduceIte]
    have hm : f_X8_doRegisters (a1, a2, a3, a4, e, w, s, l, 0, 0, R) (uB B) K G 23 (nI rn) (nI sn) = ((a1, a2, 1, a4, e, w, s, l, 0, 0, R), uB (B), K, upd G rn (G rn ^^^ G sn)) := by
      simp (decide := true) only [f_X8_doRegisters, wr_f, cr, cs, f_X8_logic, if_neg c, q_let, ↓reduceIte]
    have hss : s_X8_doRegisters (a1, a2, a3, a4, e, w, s, l, 0, 0, R) (uB B) G 23 (nI rn) (nI sn) := by
      simp (decide := true) only [s_X8_doRegisters, wr_f, cr, cs, vr, vs, and_self, true_and, and_true, q_let, ↓reduceIte]
    exact ⟨_, _, _, _, _, _, _, _, _, hc, hm, Res_ok (Wf_cc hw ⟨by decide, by decide⟩) hK, hss⟩
theorem rr_24 : RRok 24 := by
  intro x1 x2 x3 x4 pl opl rn sn G B K a1 a2 a3 a4 e w s l R hr hs hw hK
  have vr : vp_in (nI rn) 16 := vp_in_nI (by omega) (by omega)
  have vs : vp_in (nI sn) 16 := vp_in_nI (by omega) (by omega)
  have cr : (nI rn).toNatClampNeg = rn := nI_clamp (by omega)
  have cs : (nI sn).toNatClampNeg = sn := nI_clamp (by omega)
  have hc : f_X3_doRr (x1, x2, x3, x4, 24, nI (rn * 16 + sn), nI rn, nI sn, pl, opl) G (a1, a2, a3, a4) B K = (0, upd G rn (G sn), (a1, a2, a3, a4), B, K) := by
    simp (decide := true) only [f_X3_doRr, f_X3_combine, preg_in _ _ hr, reg_in _ _ hs, q_let, ↓reduceIte]
  have hm : f_X8_doRegisters (a1, a2, a3, a4, e, w, s, l, 0, 0, R) (uB B) K G 24 (nI rn) (nI sn) = ((a1, a2, a3, a4, e, w, s, l, 0, 0, R), uB (B), K, upd G rn (G sn)) := by
    simp (decide := true) only [f_X8_doRegisters, wr_f, cr, cs, q_let, ↓reduceIte]
  have hss : s_X8_doRegisters (a1, a2, a3, a4, e, w, s, l, 0, 0, R) (uB B) G 24 (nI rn) (nI sn) := by
    simp (decide := true) only [s_X8_doRegisters, wr_f, cr, cs, vr, vs, and_self, true_and, and_true, q_let, ↓reduceIte]
  exact ⟨_, _, _, _, _, _, _, _, _, hc, hm, Res_ok hw hK, hss⟩
theorem rr_25 : RRok 25 := by
  intro x1 x2 x3 x4 pl opl rn sn G B K a1 a2 a3 a4 e w s l R hr hs hw hK
  have vr : vp_in (nI rn) 16 := vp_in_nI (by omega) (by omega)
  have vs : vp_in (nI sn) 16 := vp_in_nI (by omega) (by omega)
  have cr : (nI rn).toNatClampNeg = rn := nI_clamp (by omega)
  have cs : (nI sn).toNatClampNeg = sn := nI_clamp (by omega)
  have hc : f_X3_doRr (x1, x2, x3, x4, 25, nI (rn * 16 + sn), nI rn, nI sn, pl, opl) G (a1, a2, a3, a4) B K = (0, G, (a1, a2, od (G rn).toInt (G sn).toInt, a4), B, K) := by
    simp (decide := true) only [f_X3_doRr, f_X3_combine, reg_in _ _ hr, reg_in _ _ hs, orderI, q_let, ↓reduceIte]
  have hm : f_X8_doRegisters (a1, a2, a3, a4, e, w, s, l, 0, 0, R) (uB B) K G 25 (nI rn) (nI sn) = ((a1, a2, od (G rn).toInt (G sn).toInt, a4, e, w, s, l, 0, 0, R), uB (B), K, G) := by
    simp (decide := true) only [f_X8_doRegisters, wr_f, cr, cs, cmp_eq, q_let, ↓reduceIte]
  have hss : s_X8_doRegisters (a1, a2, a3, a4, e, w, s, l, 0, 0, R) (uB B) G 25 (nI rn) (nI sn) := by
    simp (decide := true) only [s_X8_doRegisters, wr_f, cr, cs, vr, vs, and_self, true_and, and_true, q_let, ↓reduceIte]
  exact ⟨_, _, _, _, _, _, _, _, _, hc, hm, Res_ok (Wf_cc hw (od_rg _ _)) hK, hss⟩
theorem rr_26 : RRok 26 := by
  intro x1 x2 x3 x4 pl opl rn sn G B K a1 a2 a3 a4 e w s l R hr hs hw hK
  have vr : vp_in (nI rn) 16 := vp_in_nI (by omega) (by omega)
  have vs : vp_in (nI sn) 16 := vp_in_nI (by omega) (by omega)
  have cr : (nI rn).toNatClampNeg = rn := nI_clamp (by omega)
  have cs : (nI sn).toNatClampNeg = sn := nI_clamp (by omega)
  obtain ⟨c, b3, s1, s2, s3⟩ := sum_eq x1 x2 x3 x4 26 (nI (rn * 16 + sn)) rn (nI sn) pl opl hr G a1 a2 a3 a4 e w s l R hw.1 ((G rn).toInt64 + (G sn).toInt64)
  have hc : f_X3_doRr (x1, x2, x3, x4, 26, nI (rn * 16 + sn), nI rn, nI sn, pl, opl) G (a1, a2, a3, a4) B K = (c, upd G rn ((G rn).toInt64 + (G sn).toInt64).toInt32, (a1, a2, b3, a4), B, K) := by
    simp (decide := true) only [f_X3_doRr, f_X3_combine, reg_in _ _ hr, reg_in _ _ hs, s1, q_let, ↓reduceIte]
  have hm : f_X8_doRegisters (a1, a2, a3, a4, e, w, s, l, 0, 0, R) (uB B) K G 26 (nI rn) (nI sn) = ((a1, a2, b3, a4, e, w, s, l, 0, c, R), uB (B), K, upd G rn ((G rn).toInt64 + (G sn).toInt64).toInt32) := by
    simp (decide := true) only [f_X8_doRegisters, wr_f, cr, cs, s2, q_let, ↓reduceIte]
  have hss : s_X8_doRegisters (a1, a2, a3, a4, e, w, s, l, 0, 0, R) (uB B) G 26 (nI rn) (nI sn) := by
    simp (decide := true) only [s_X8_doRegisters, wr_f, cr, cs, s2, vr, vs, and_self, true_and, and_true, q_let, ↓reduceIte]
  exact ⟨_, _, _, _, _, _, _, _, _, hc, hm, Res_ok (Wf_cc hw s3) hK, hss⟩
theorem rr_27 : RRok 27 := by
  intro x1 x2 x3 x4 pl opl rn sn G B K a1 a2 a3 a4 e w s l R hr hs hw hK
  have vr : vp_in (nI rn) 16 := vp_in_nI (by omega) (by omega)
  have vs : vp_in (nI sn) 16 := vp_in_nI (by omega) (by omega)
  have cr : (nI rn).toNatClampNeg = rn := nI_clamp (by omega)
  have cs : (nI sn).toNatClampNeg = sn := nI_clamp (by omega)
  obtain ⟨c, b3, s1, s2, s3⟩ := sum_eq x1 x2 x3 x4 27 (nI (rn * 16 + sn)) rn (nI sn) pl opl hr G a1 a2 a3 a4 e w s l R hw.1 ((G rn).toInt64 - (G sn).toInt64)
  have hc : f_X3_doRr (x1, x2, x3, x4, 27, nI (rn * 16 + sn), nI rn, nI sn, pl, opl) G (a1, a2, a3, a4) B K = (c, upd G rn ((G rn).toInt64 - (G sn).toInt64).toInt32, (a1, a2, b3, a4), B, K) := by
    simp (decide := true) only [f_X3_doRr, f_X3_combine, reg_in _ _ hr, reg_in _ _ hs, s1, q_let, ↓reduceIte]
  have hm : f_X8_doRegisters (a1, a2, a3, a4, e, w, s, l, 0, 0, R) (uB B) K G 27 (nI rn) (nI sn) = ((a1, a2, b3, a4, e, w, s, l, 0, c, R), uB (B), K, upd G rn ((G rn).toInt64 - (G sn).toInt64).toInt32) := by
    simp (decide := true) only [f_X8_doRegisters, wr_f, cr, cs, s2, q_let, ↓reduceIte]
  have hss : s_X8_doRegisters (a1, a2, a3, a4, e, w, s, l, 0, 0, R) (uB B) G 27 (nI rn) (nI sn) := by
    simp (decide := true) only [s_X8_doRegisters, wr_f, cr, cs, s2, vr, vs, and_self, true_and, and_true, q_let, ↓reduceIte]
  exact ⟨_, _, _, _, _, _, _, _, _, hc, hm, Res_ok (Wf_cc hw s3) hK, hss⟩
theorem rr_28 : RRok 28 := by
  intro x1 x2 x3 x4 pl opl rn sn G B K a1 a2 a3 a4 e w s l R hr hs hw hK
  have vr : vp_in (nI rn) 16 := vp_in_nI (by omega) (by omega)
  have vs : vp_in (nI sn) 16 := vp_in_nI (by omega) (by omega)
  have cr : (nI rn).toNatClampNeg = rn := nI_clamp (by omega)
  have cs : (nI sn).toNatClampNeg = sn := nI_clamp (by omega)
  have hrem : nI rn - nI rn / (2 : Int32) * (2 : Int32) = nI (rn % 2) := pk_rem (d := 2) (by omega) (by omega) (by omega)
  by_cases c : rn % 2 = 0
  · have hz : nI (rn % 2) = 0 := by rw [c]; rfl
    have hz1 : ¬ nI (rn % 2) = 1 := by rw [c]; decide
    have e1 : nI rn + (1 : Int32) = nI (rn + 1) := nI_1 rn
    have hr1 : rn + 1 < 16 := by omega
    have cr1 : (nI (rn + 1)).toNatClampNeg = rn + 1 := nI_clamp (by omega)
    have vr1 : vp_in (nI (rn + 1)) 16 := vp_in_nI (by omega) (by omega)
    have hc : f_X3_doRr (x1, x2, x3, x4, 28, nI (rn * 16 + sn), nI rn, nI sn, pl, opl) G (a1, a2, a3, a4) B K = (0, upd (upd G rn (((G (rn + 1)).toInt64 * (G sn).toInt64) >>> ((32 : Int32).toInt64 &&& 63)).toInt32) (rn + 1) ((G (rn + 1)).toInt64 * (G sn).toInt64).toInt32, (a1, a2, a3, a4), B, K) := by
      simp (decide := true) only [f_X3_doRr, f_X3_multiply, hrem, hz, e1, preg_in _ _ hr, preg_in _ _ hr1, reg_in _ _ hr1, reg_in _ _ hs, q_let, ↓reduceIte]
    have hm : f_X8_doRegisters (a1, a2, a3, a4, e, w, s, l, 0, 0, R) (uB B) K G 28 (nI rn) (nI sn) = ((a1, a2, a3, a4, e, w, s, l, 0, 0, R), uB (B), K, upd (upd G rn (((G (rn + 1)).toInt64 * (G sn).toInt64) >>> ((32 : Int32).toInt64 &&& 63)).toInt32) (rn + 1) ((G (rn + 1)).toInt64 * (G sn).toInt64).toInt32) := by
      simp (decide := true) only [f_X8_doRegisters, hrem, if_neg hz1, wr_f, e1, cr, cs, cr1, q_let, ↓reduceIte]
    have hss : s_X8_doRegisters (a1, a2, a3, a4, e, w, s, l, 0, 0, R) (uB B) G 28 (nI rn) (nI sn) := by
      simp (decide := true) only [s_X8_doRegisters, hrem, if_neg hz1, wr_f, e1, vr1, vr, vs, and_self, true_and, and_true, q_let, ↓reduceIte]
    exact ⟨_, _, _, _, _, _, _, _, _, hc, hm, Res_ok hw hK, hss⟩
  · have hz : ¬ nI (rn % 2) = 0 := nI_ne0 (by omega) (by omega)
    have hz1 : nI (rn % 2) = 1 := by rw [show rn % 2 = 1 by omega]; rfl
    have hc : f_X3_doRr (x1, x2, x3, x4, 28, nI (rn * 16 + sn), nI rn, nI sn, pl, opl) G (a1, a2, a3, a4) B K = (6, G, (a1, a2, a3, a4), B, K) := by
      simp (decide := true) only [f_X3_doRr, f_X3_multiply, hrem, if_neg hz, q_let, ↓reduceIte]
    have hm : f_X8_doRegisters (a1, a2, a3, a4, e, w, s, l, 0, 0, R) (uB B) K G 28 (nI rn) (nI sn) = ((a1, a2, a3, a4, e, w, s, l, 6, 0, R), uB (B), K, G) := by
      simp (decide := true) only [f_X8_doRegisters, hrem, if_pos hz1, wr_t, q_let, ↓reduceIte]
    have hss : s_X8_doRegisters (a1, a2, a3, a4, e, w, s, l, 0, 0, R) (uB B) G 28 (nI rn) (nI sn) := by
      simp (decide := true) only [s_X8_doRegisters, hrem, if_pos hz1, wr_t, vr, vs, and_self, true_and, and_true, q_let, ↓reduceIte]
    exact ⟨_, _, _, _, _, _, _, _, _, hc, hm, Res_bad (by decide) hw hK, hss⟩
theorem rr_29 : RRok 29 := by
  intro x1 x2 x3 x4 pl opl rn sn G B K a1 a2 a3 a4 e w s l R hr hs hw hK
  have vr : vp_in (nI rn) 16 := vp_in_nI (by omega) (by omega)
  have vs : vp_in (nI sn) 16 := vp_in_nI (by omega) (by omega)
  have cr : (nI rn).toNatClampNeg = rn := nI_clamp (by omega)
  have cs : (nI sn).toNatClampNeg = sn := nI_clamp (by omega)
  have hrem : nI rn - nI rn / (2 : Int32) * (2 : Int32) = nI (rn % 2) := pk_rem (d := 2) (by omega) (by omega) (by omega)
  by_cases c : rn % 2 = 0
  · have hz : nI (rn % 2) = 0 := by rw [c]; rfl
    have hz1 : ¬ nI (rn % 2) = 1 := by rw [c]; decide
    have e1 : nI rn + (1 : Int32) = nI (rn + 1) := nI_1 rn
    have hr1 : rn + 1 < 16 := by omega
    have cr1 : (nI (rn + 1)).toNatClampNeg = rn + 1 := nI_clamp (by omega)
    have vr1 : vp_in (nI (rn + 1)) 16 := vp_in_nI (by omega) (by omega)
    obtain ⟨dv, hdv⟩ : ∃ dv : Int64, dv = (((G rn).toInt64 <<< ((32 : Int32).toInt64 &&& 63)) ||| ((G (rn + 1)).toInt64 &&& (4294967295 : Int64))) := ⟨_, rfl⟩
    have hdr : (if 0 ≤ lg_cmp (G (rn + 1)).toInt64 0 then ((G rn).toInt64 <<< ((32 : Int32).toInt64 &&& 63)) + (G (rn + 1)).toInt64 else ((G rn).toInt64 <<< ((32 : Int32).toInt64 &&& 63)) + ((G (rn + 1)).toInt64 + (4294967296 : Int64))) = dv := by
      rw [hdv, dvd_eq, low32]
      split <;> rfl
    have hdf : f_X8_divide (a1, a2, a3, a4, e, w, s, l, 0, 0, R) G (nI rn) (G sn) = (if G sn = 0 then ((a1, a2, a3, a4, e, w, s, l, 9, 0, R), G) else if lg_cmp (dv / (G sn).toInt64) (dv / (G sn).toInt64).toInt32.toInt64 = 0 then ((a1, a2, a3, a4, e, w, s, l, 0, 0, R), upd (upd G rn (dv - dv / (G sn).toInt64 * (G sn).toInt64).toInt32) (rn + 1) (dv / (G sn).toInt64).toInt32) else ((a1, a2, a3, a4, e, w, s, l, 9, 0, R), G)) ∧ s_X8_divide (a1, a2, a3, a4, e, w, s, l, 0, 0, R) G (nI rn) (G sn) := by
      have g9 : ¬ (9 : Int32) = 0 := by decide
      have key : ∀ q : Int64, (0 < lg_cmp q 2147483647 ∨ (¬ 0 < lg_cmp q 2147483647 ∧ ¬ 0 ≤ lg_cmp q (-2147483648))) ∧ ¬ lg_cmp q q.toInt32.toInt64 = 0 ∨ (¬ 0 < lg_cmp q 2147483647 ∧ 0 ≤ lg_cmp q (-2147483648)) ∧ lg_cmp q q.toInt32.toInt64 = 0 := by
        intro q
        have hf := fits_int q
        by_cases k1 : 0 < lg_cmp q 2147483647
        · exact Or.inl ⟨Or.inl k1, fun z => (hf.mp z).1 k1⟩
        · by_cases k2 : 0 ≤ lg_cmp q (-2147483648)
          · exact Or.inr ⟨⟨k1, k2⟩, hf.mpr ⟨k1, k2⟩⟩
          · exact Or.inl ⟨Or.inr ⟨k1, k2⟩, fun z => k2 (hf.mp z).2⟩
      have hn0 : ¬ G sn = 0 → ¬ (G sn).toInt64 = 0 := fun q z => q (by
        have h1 := congrArg Int64.toInt z
        rw [Int32.toInt_toInt64] at h1
        rw [q_eq, q_0]
        exact h1)
      unfold f_X8_divide s_X8_divide
      rw [e1, cr, cr1]
      by_cases c0 : 0 ≤ lg_cmp (G (rn + 1)).toInt64 0
      · rw [if_pos c0] at hdr
        rw [if_pos c0, if_pos c0, hdr]
        by_cases cz : G sn = 0
        · rw [if_pos cz, if_pos cz, if_pos cz, if_pos (by decide), if_pos (by decide), wr_t]
          simp only [q_let]
          rw [if_neg g9, if_neg g9]
          exact ⟨rfl, vr1, vr, trivial⟩
        · rw [if_neg cz, if_neg cz, if_neg cz]
          rcases key (dv / (G sn).toInt64) with ⟨k1 | ⟨k1, k2⟩, k3⟩ | ⟨⟨k1, k2⟩, k3⟩
          · rw [if_pos k1, if_pos k1, if_neg k3, wr_t]
            simp only [q_let]
            rw [if_neg g9, if_neg g9]
            exact ⟨rfl, vr1, vr, hn0 cz, trivial⟩
          · rw [if_neg k1, if_neg k1, if_neg k2, if_neg k2, if_neg k3, wr_t]
            simp only [q_let]
            rw [if_neg g9, if_neg g9]
            exact ⟨rfl, vr1, vr, hn0 cz, trivial⟩
          · rw [if_neg k1, if_neg k1, if_pos k2, if_pos k2, if_pos k3, wr_f]
            simp only [q_let, ↓reduceIte]
            exact ⟨trivial, vr1, vr, hn0 cz, hn0 cz, vr, vr1⟩
      · rw [if_neg c0] at hdr
        rw [if_neg c0, if_neg c0, hdr]
        by_cases cz : G sn = 0
        · rw [if_pos cz, if_pos cz, if_pos cz, if_pos (by decide), if_pos (by decide), wr_t]
          simp only [q_let]
          rw [if_neg g9, if_neg g9]
          exact ⟨rfl, vr1, vr, trivial⟩
        · rw [if_neg cz, if_neg cz, if_neg cz]
          rcases key (dv / (G sn).toInt64) with ⟨k1 | ⟨k1, k2⟩, k3⟩ | ⟨⟨k1, k2⟩, k3⟩
          · rw [if_pos k1, if_pos k1, if_neg k3, wr_t]
            simp only [q_let]
            rw [if_neg g9, if_neg g9]
            exact ⟨rfl, vr1, vr, hn0 cz, trivial⟩
          · rw [if_neg k1, if_neg k1, if_neg k2, if_neg k2, if_neg k3, wr_t]
            simp only [q_let]
            rw [if_neg g9, if_neg g9]
            exact ⟨rfl, vr1, vr, hn0 cz, trivial⟩
          · rw [if_neg k1, if_neg k1, if_pos k2, if_pos k2, if_pos k3, wr_f]
            simp only [q_let, ↓reduceIte]
            exact ⟨trivial, vr1, vr, hn0 cz, hn0 cz, vr, vr1⟩
    obtain ⟨hdf1, hdf2⟩ := hdf
    have hz0 : lg_cmp (G sn).toInt64 0 = 0 ↔ G sn = 0 := by
      rw [lg_cmp_eq, ← Int64.toInt_inj, Int32.toInt_toInt64, q_eq]; exact Iff.rfl
    by_cases cz : G sn = 0
    · rw [if_pos cz] at hdf1
      have cz2 := hz0.mpr cz
      have hc : f_X3_doRr (x1, x2, x3, x4, 29, nI (rn * 16 + sn), nI rn, nI sn, pl, opl) G (a1, a2, a3, a4) B K = (9, G, (a1, a2, a3, a4), B, K) := by
        simp (decide := true) only [f_X3_doRr, f_X3_divide, hrem, hz, e1, reg_in _ _ hs, if_pos cz2, q_let, ↓reduceIte]
      have hm : f_X8_doRegisters (a1, a2, a3, a4, e, w, s, l, 0, 0, R) (uB B) K G 29 (nI rn) (nI sn) = ((a1, a2, a3, a4, e, w, s, l, 9, 0, R), uB (B), K, G) := by
        simp (decide := true) only [f_X8_doRegisters, hrem, if_neg hz1, wr_f, cs, hdf1, q_let, ↓reduceIte]
      have hss : s_X8_doRegisters (a1, a2, a3, a4, e, w, s, l, 0, 0, R) (uB B) G 29 (nI rn) (nI sn) := by
        simp (decide := true) only [s_X8_doRegisters, hrem, if_neg hz1, wr_f, cs, hdf2, vr, vs, and_self, true_and, and_true, q_let, ↓reduceIte]
      exact ⟨_, _, _, _, _, _, _, _, _, hc, hm, Res_bad (by decide) hw hK, hss⟩
    · rw [if_neg cz] at hdf1
      have cz2 : ¬ lg_cmp (G sn).toInt64 0 = 0 := fun q => cz (hz0.mp q)
      by_cases cq : lg_cmp (dv / (G sn).toInt64) (dv / (G sn).toInt64).toInt32.toInt64 = 0
      · rw [if_pos cq] at hdf1
        have hc : f_X3_doRr (x1, x2, x3, x4, 29, nI (rn * 16 + sn), nI rn, nI sn, pl, opl) G (a1, a2, a3, a4) B K = (0, upd (upd G rn (dv - dv / (G sn).toInt64 * (G sn).toInt64).toInt32) (rn + 1) (dv / (G sn).toInt64).toInt32, (a1, a2, a3, a4), B, K) := by
          simp (decide := true) only [f_X3_doRr, f_X3_divide, hrem, hz, e1, preg_in _ _ hr, preg_in _ _ hr1, reg_in _ _ hr, reg_in _ _ hr1, reg_in _ _ hs, if_neg cz2, ← hdv, if_pos cq, q_let, ↓reduceIte]
        have hm : f_X8_doRegisters (a1, a2, a3, a4, e, w, s, l, 0, 0, R) (uB B) K G 29 (nI rn) (nI sn) = ((a1, a2, a3, a4, e, w, s, l, 0, 0, R), uB (B), K, upd (upd G rn (dv - dv / (G sn).toInt64 * (G sn).toInt64).toInt32) (rn + 1) (dv / (G sn).toInt64).toInt32) := by
          simp (decide := true) only [f_X8_doRegisters, hrem, if_neg hz1, wr_f, cs, hdf1, q_let, ↓reduceIte]
        have hss : s_X8_doRegisters (a1, a2, a3, a4, e, w, s, l, 0, 0, R) (uB B) G 29 (nI rn) (nI sn) := by
          simp (decide := true) only [s_X8_doRegisters, hrem, if_neg hz1, wr_f, cs, hdf2, vr, vs, and_self, true_and, and_true, q_let, ↓reduceIte]
        exact ⟨_, _, _, _, _, _, _, _, _, hc, hm, Res_ok hw hK, hss⟩
      · rw [if_neg cq] at hdf1
        have hc : f_X3_doRr (x1, x2, x3, x4, 29, nI (rn * 16 + sn), nI rn, nI sn, pl, opl) G (a1, a2, a3, a4) B K = (9, G, (a1, a2, a3, a4), B, K) := by
          simp (decide := true) only [f_X3_doRr, f_X3_divide, hrem, hz, e1, reg_in _ _ hr, reg_in _ _ hr1, reg_in _ _ hs, if_neg cz2, ← hdv, if_neg cq, q_let, ↓reduceIte]
        have hm : f_X8_doRegisters (a1, a2, a3, a4, e, w, s, l, 0, 0, R) (uB B) K G 29 (nI rn) (nI sn) = ((a1, a2, a3, a4, e, w, s, l, 9, 0, R), uB (B), K, G) := by
          simp (decide := true) only [f_X8_doRegisters, hrem, if_neg hz1, wr_f, cs, hdf1, q_let, ↓reduceIte]
        have hss : s_X8_doRegisters (a1, a2, a3, a4, e, w, s, l, 0, 0, R) (uB B) G 29 (nI rn) (nI sn) := by
          simp (decide := true) only [s_X8_doRegisters, hrem, if_neg hz1, wr_f, cs, hdf2, vr, vs, and_self, true_and, and_true, q_let, ↓reduceIte]
        exact ⟨_, _, _, _, _, _, _, _, _, hc, hm, Res_bad (by decide) hw hK, hss⟩
  · have hz : ¬ nI (rn % 2) = 0 := nI_ne0 (by omega) (by omega)
    have hz1 : nI (rn % 2) = 1 := by rw [show rn % 2 = 1 by omega]; rfl
    have hc : f_X3_doRr (x1, x2, x3, x4, 29, nI (rn * 16 + sn), nI rn, nI sn, pl, opl) G (a1, a2, a3, a4) B K = (6, G, (a1, a2, a3, a4), B, K) := by
      simp (decide := true) only [f_X3_doRr, f_X3_divide, hrem, if_neg hz, q_let, ↓reduceIte]
    have hm : f_X8_doRegisters (a1, a2, a3, a4, e, w, s, l, 0, 0, R) (uB B) K G 29 (nI rn) (nI sn) = ((a1, a2, a3, a4, e, w, s, l, 6, 0, R), uB (B), K, G) := by
      simp (decide := true) only [f_X8_doRegisters, hrem, if_pos hz1, wr_t, q_let, ↓reduceIte]
    have hss : s_X8_doRegisters (a1, a2, a3, a4, e, w, s, l, 0, 0, R) (uB B) G 29 (nI rn) (nI sn) := by
      simp (decide := true) only [s_X8_doRegisters, hrem, if_pos hz1, wr_t, vr, vs, and_self, true_and, and_true, q_let, ↓reduceIte]
    exact ⟨_, _, _, _, _, _, _, _, _, hc, hm, Res_bad (by decide) hw hK, hss⟩
