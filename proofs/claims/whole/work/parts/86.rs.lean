/-! the instructions of four bytes without an index -/
theorem num_eq : ∀ r, r < 16 → ∀ s, s < 16 → ((nI s - nI r) &&& (15 : Int32)) + (1 : Int32) = nI ((s + 16 - r) % 16 + 1) ∧ ((nI s - nI r) + (16 : Int32)) - ((nI s - nI r) + (16 : Int32)) / (16 : Int32) * (16 : Int32) + (1 : Int32) = nI ((s + 16 - r) % 16 + 1) := by decide +kernel
theorem named_eq (x1 : Bool) (x2 x3 x4 op imm : Int32) (rn sn : Nat) (pl opl : Int32) (hr : rn < 16) (hs : sn < 16) : f_X3_registersNamed (x1, x2, x3, x4, op, imm, nI rn, nI sn, pl, opl) = nI ((sn + 16 - rn) % 16 + 1) := (num_eq rn hr sn hs).1
theorem regk (rn k : Nat) (h : rn + k < 2 ^ 30) : (nI rn + nI k) - (nI rn + nI k) / (16 : Int32) * (16 : Int32) = nI ((rn + k) % 16) ∧ ((nI rn + nI k) &&& (15 : Int32)).toNatClampNeg = (rn + k) % 16 := by
  rw [nI_add]
  refine ⟨pk_rem (d := 16) (by omega) (by omega) (by omega), ?_⟩
  rw [pk_andN (by omega) 4 (by decide), nI_clamp (by omega)]
theorem stm_loop (x1 : Bool) (x2 x3 x4 op imm : Int32) (rn sn a N : Nat) (opl : Int32) (hr : rn < 16) (hs : sn < 16) (hN : N = (sn + 16 - rn) % 16 + 1) (ha : a + 4 * N ≤ 2048) (G : rw_) (o : tO) : ∀ (d k fuel : Nat) (B : rw_), k + d = N → d < fuel →
    ∃ B', f_X3_storeRegisters_L26 (x1, x2, x3, x4, op, imm, nI rn, nI sn, nI a, opl) G fuel B (nI k) = (0, B') ∧ f_X8_several_L18 true (nI rn) (nI N) (nI a) fuel o (uB B) G (nI k) = (o, uB B', G) ∧ s_X8_several_L18 true (nI rn) (nI N) (nI a) fuel o (uB B) G (nI k) := by
  have hnm := named_eq x1 x2 x3 x4 op imm rn sn (nI a) opl hr hs
  rw [← hN] at hnm
  intro d
  induction d with
  | zero =>
    intro k fuel B h1 h2
    obtain ⟨f, rfl⟩ : ∃ f, fuel = f + 1 := ⟨fuel - 1, by omega⟩
    refine ⟨B, ?_, ?_, ?_⟩
    · rw [f_X3_storeRegisters_L26, hnm, if_pos (nI_le (by omega) (by omega))]
    · rw [f_X8_several_L18, if_pos (nI_le (by omega) (by omega))]
    · rw [s_X8_several_L18, if_pos (nI_le (by omega) (by omega))]; trivial
  | succ d ih =>
    intro k fuel B h1 h2
    obtain ⟨f, rfl⟩ : ∃ f, fuel = f + 1 := ⟨fuel - 1, by omega⟩
    obtain ⟨q1, q2⟩ := regk rn k (by omega)
    have e1 : nI a + nI k * (4 : Int32) = nI (a + k * 4) := by rw [show nI k * (4 : Int32) = nI (k * 4) from pk_mul k 4, nI_add]
    have e2 : nI a + (4 : Int32) * nI k = nI (a + k * 4) := by rw [show (4 : Int32) * nI k = nI (4 * k) from pk_mul 4 k, nI_add, Nat.mul_comm]
    have e3 : nI k + (1 : Int32) = nI (k + 1) := nI_1 k
    have e4 : f_X3_register G (nI rn + nI k) = G ((rn + k) % 16) := by unfold f_X3_register; rw [q2]
    have e5 : (nI ((rn + k) % 16)).toNatClampNeg = (rn + k) % 16 := nI_clamp (by omega)
    have hput := putWord_eq B (a + k * 4) (G ((rn + k) % 16)) (by omega)
    have sput : s_X8_put (uB B) (nI (a + k * 4)) (G ((rn + k) % 16)) 4 := s_put_ok (uB B) (a + k * 4) (G ((rn + k) % 16)) 4 (by omega)
    obtain ⟨B', i1, i2, i3⟩ := ih (k + 1) f (f_X6_putWord B (nI (a + k * 4)) (G ((rn + k) % 16))) (by omega) (by omega)
    rw [hput] at i2 i3
    refine ⟨B', ?_, ?_, ?_⟩
    · rw [f_X3_storeRegisters_L26, hnm, if_neg (nI_ge (by omega) (by omega))]
      dsimp only
      rw [e1, e4, e3]
      exact i1
    · rw [f_X8_several_L18, if_neg (nI_ge (by omega) (by omega)), if_pos rfl, e2, q1, e5, e3]
      exact i2
    · rw [s_X8_several_L18, if_neg (nI_ge (by omega) (by omega)), if_pos rfl, e2, q1, e5, e3]
      exact ⟨vp_in_nI (by omega) (by omega), sput, i3⟩
theorem lm_loop (x1 : Bool) (x2 x3 x4 op imm : Int32) (rn sn a N : Nat) (opl : Int32) (hr : rn < 16) (hs : sn < 16) (hN : N = (sn + 16 - rn) % 16 + 1) (ha : a + 4 * N ≤ 2048) (B : rw_) (o : tO) : ∀ (d k fuel : Nat) (G : rw_), k + d = N → d < fuel →
    ∃ G', f_X3_loadRegisters_L25 (x1, x2, x3, x4, op, imm, nI rn, nI sn, nI a, opl) B fuel G (nI k) = (0, G') ∧ f_X8_several_L18 false (nI rn) (nI N) (nI a) fuel o (uB B) G (nI k) = (o, uB B, G') ∧ s_X8_several_L18 false (nI rn) (nI N) (nI a) fuel o (uB B) G (nI k) := by
  have hnm := named_eq x1 x2 x3 x4 op imm rn sn (nI a) opl hr hs
  rw [← hN] at hnm
  intro d
  induction d with
  | zero =>
    intro k fuel G h1 h2
    obtain ⟨f, rfl⟩ : ∃ f, fuel = f + 1 := ⟨fuel - 1, by omega⟩
    refine ⟨G, ?_, ?_, ?_⟩
    · rw [f_X3_loadRegisters_L25, hnm, if_pos (nI_le (by omega) (by omega))]
    · rw [f_X8_several_L18, if_pos (nI_le (by omega) (by omega))]
    · rw [s_X8_several_L18, if_pos (nI_le (by omega) (by omega))]; trivial
  | succ d ih =>
    intro k fuel G h1 h2
    obtain ⟨f, rfl⟩ : ∃ f, fuel = f + 1 := ⟨fuel - 1, by omega⟩
    obtain ⟨q1, q2⟩ := regk rn k (by omega)
    have e1 : nI a + nI k * (4 : Int32) = nI (a + k * 4) := by rw [show nI k * (4 : Int32) = nI (k * 4) from pk_mul k 4, nI_add]
    have e2 : nI a + (4 : Int32) * nI k = nI (a + k * 4) := by rw [show (4 : Int32) * nI k = nI (4 * k) from pk_mul 4 k, nI_add, Nat.mul_comm]
    have e3 : nI k + (1 : Int32) = nI (k + 1) := nI_1 k
    have hw : f_X6_wordAt B (nI (a + k * 4)) = f_X8_field (uB B) (nI (a + k * 4)) 4 := wordAt_eq B (a + k * 4) (by omega)
    have e4 : ∀ v, f_X3_putRegister G (nI rn + nI k) v = upd G ((rn + k) % 16) v := fun v => by unfold f_X3_putRegister; rw [q2]
    have e5 : (nI ((rn + k) % 16)).toNatClampNeg = (rn + k) % 16 := nI_clamp (by omega)
    have sfld : s_X8_field (uB B) (nI (a + k * 4)) 4 := s_field_ok (uB B) (a + k * 4) 4 (by omega)
    obtain ⟨G', i1, i2, i3⟩ := ih (k + 1) f (upd G ((rn + k) % 16) (f_X8_field (uB B) (nI (a + k * 4)) 4)) (by omega) (by omega)
    have hff : ¬ false = true := by decide
    refine ⟨G', ?_, ?_, ?_⟩
    · rw [f_X3_loadRegisters_L25, hnm, if_neg (nI_ge (by omega) (by omega))]
      dsimp only
      rw [e1, hw, e4, e3]
      exact i1
    · rw [f_X8_several_L18, if_neg (nI_ge (by omega) (by omega)), if_neg hff, e2, q1, e5, e3]
      exact i2
    · rw [s_X8_several_L18, if_neg (nI_ge (by omega) (by omega)), if_neg hff, e2, q1, e5, e3]
      exact ⟨sfld, vp_in_nI (by omega) (by omega), i3⟩
theorem sh_eq (a : Nat) (ha : a < 2 ^ 24) : ∃ k : Nat, k < 32 ∧ (nI a &&& (31 : Int32)) = nI k ∧ ((nI a &&& (32 : Int32)) = 0 ↔ (nI a &&& (63 : Int32)) ≤ (31 : Int32)) ∧ ((nI a &&& (63 : Int32)) ≤ (31 : Int32) → (nI a &&& (63 : Int32)) = nI k) := by
  have h63 : nI a &&& (63 : Int32) = nI (a % 64) := pk_andN (by omega) 6 (by decide)
  have h31 : nI a &&& (31 : Int32) = nI (a % 32) := pk_andN (by omega) 5 (by decide)
  have h32 : nI a &&& (32 : Int32) = (nI (a % 64)) &&& (32 : Int32) := by
    rw [← h63, Int32.and_assoc]; rfl
  have hd : ∀ m, m < 64 → (((nI m &&& (32 : Int32)) = 0 ↔ nI m ≤ (31 : Int32)) ∧ (nI m ≤ (31 : Int32) → m < 32)) := by decide +kernel
  obtain ⟨d1, d2⟩ := hd (a % 64) (by omega)
  refine ⟨a % 32, by omega, h31, ?_, fun q => ?_⟩
  · rw [h32, h63]; exact d1
  · rw [h63] at q ⊢
    have := d2 q
    congr 1
    omega
def RSok (op : Int32) : Prop := ∀ (x1 : Bool) (x2 x3 x4 opl : Int32) (rn sn a : Nat) (C : tCh) (G B K : rw_) (a1 a2 a3 a4 : Int32) (e w : Bool) (s l : Int32) (R : tR), rn < 16 → sn < 16 → a < 2 ^ 24 → Wf a1 a2 a3 a4 → (∀ i, rg (K i) 16) →
  ∃ code G' T' B' o' b' reg', f_X3_doRsOrSi (x1, x2, x3, x4, op, nI (rn * 16 + sn), nI rn, nI sn, nI a, opl) C G (a1, a2, a3, a4) B K = (code, C, G', T', B') ∧ f_X8_doStored (a1, a2, a3, a4, e, w, s, l, 0, 0, R) (uB B) K G op (nI (rn * 16 + sn)) (nI a) = (o', b', reg') ∧ Res code G' T' B' K o' b' K reg' e w s l R ∧ s_X8_doStored (a1, a2, a3, a4, e, w, s, l, 0, 0, R) (uB B) K G op (nI (rn * 16 + sn)) (nI a)
theorem rs_130 : RSok 130 := by
  intro x1 x2 x3 x4 opl rn sn a C G B K a1 a2 a3 a4 e w s l R hr hs ha hw hK
  have vr : vp_in (nI rn) 16 := vp_in_nI (by omega) (by omega)
  have cr : (nI rn).toNatClampNeg = rn := nI_clamp (by omega)
  have ca : (nI a).toNatClampNeg = a := nI_clamp (by omega)
  have p16 : nI (rn * 16 + sn) / (16 : Int32) = nI rn := (pk_div (d := 16) (by omega) (by omega) (by omega)).trans (by congr 1; omega)
  have q16 : nI (rn * 16 + sn) - nI rn * (16 : Int32) = nI sn := by rw [show nI rn * (16 : Int32) = nI (rn * 16) from pk_mul rn 16, pk_sub (by omega)]; congr 1; omega
  have gg := goodR K a 8 8 3 8 8 (by decide) (by decide) ha (by omega) (by omega) (by decide) (by omega) a1 a2 a3 a4 e w s l 0 R
  obtain ⟨gd, gs⟩ := gg
  rcases gd with ⟨g1, g2, g3, g4⟩ | ⟨c, c0, c1, g1, g2⟩
  · obtain ⟨b1, b2, b3, b4, l1, l2, l3, l4⟩ := load_eq B a (by omega) a1 a2 a3 a4 e w s l 0 0 R
    have hc : f_X3_doRsOrSi (x1, x2, x3, x4, 130, nI (rn * 16 + sn), nI rn, nI sn, nI a, opl) C G (a1, a2, a3, a4) B K = (0, C, G, (b1, b2, b3, b4), B) := by
      simp (decide := true) only [f_X3_doRsOrSi, f_X3_loadStatus, g1, l1, q_let, ↓reduceIte]
    have hm : f_X8_doStored (a1, a2, a3, a4, e, w, s, l, 0, 0, R) (uB B) K G 130 (nI (rn * 16 + sn)) (nI a) = ((b1, b2, b3, b4, e, w, s, l, 0, 0, R), uB (B), G) := by
      simp (decide := true) only [f_X8_doStored, p16, q16, g2, l2, q_let, ↓reduceIte]
    have hss : s_X8_doStored (a1, a2, a3, a4, e, w, s, l, 0, 0, R) (uB B) K G 130 (nI (rn * 16 + sn)) (nI a) := by
      simp (decide := true) only [s_X8_doStored, p16, q16, g2, gs, l4, vr, and_self, true_and, and_true, q_let, ↓reduceIte]
    exact ⟨_, _, _, _, _, _, _, hc, hm, Res_ok l3 hK, hss⟩
  · have hc : f_X3_doRsOrSi (x1, x2, x3, x4, 130, nI (rn * 16 + sn), nI rn, nI sn, nI a, opl) C G (a1, a2, a3, a4) B K = (c, C, G, (a1, a2, a3, a4), B) := by
      simp (decide := true) only [f_X3_doRsOrSi, f_X3_loadStatus, g1, if_neg c0, q_let, ↓reduceIte]
    have hm : f_X8_doStored (a1, a2, a3, a4, e, w, s, l, 0, 0, R) (uB B) K G 130 (nI (rn * 16 + sn)) (nI a) = ((a1, a2, a3, a4, e, w, s, l, c, 0, R), uB (B), G) := by
      simp (decide := true) only [f_X8_doStored, p16, q16, g2, q_let, ↓reduceIte]
    have hss : s_X8_doStored (a1, a2, a3, a4, e, w, s, l, 0, 0, R) (uB B) K G 130 (nI (rn * 16 + sn)) (nI a) := by
      simp (decide := true) only [s_X8_doStored, p16, q16, g2, gs, vr, and_self, true_and, and_true, q_let, ↓reduceIte]
    exact ⟨_, _, _, _, _, _, _, hc, hm, Res_bad c1 hw hK, hss⟩
theorem rs_136 : RSok 136 := by
  intro x1 x2 x3 x4 opl rn sn a C G B K a1 a2 a3 a4 e w s l R hr hs ha hw hK
  have vr : vp_in (nI rn) 16 := vp_in_nI (by omega) (by omega)
  have cr : (nI rn).toNatClampNeg = rn := nI_clamp (by omega)
  have ca : (nI a).toNatClampNeg = a := nI_clamp (by omega)
  have p16 : nI (rn * 16 + sn) / (16 : Int32) = nI rn := (pk_div (d := 16) (by omega) (by omega) (by omega)).trans (by congr 1; omega)
  have q16 : nI (rn * 16 + sn) - nI rn * (16 : Int32) = nI sn := by rw [show nI rn * (16 : Int32) = nI (rn * 16) from pk_mul rn 16, pk_sub (by omega)]; congr 1; omega
  obtain ⟨k, hk, k1, k2, k3⟩ := sh_eq a ha
  by_cases c : (nI a &&& (63 : Int32)) ≤ (31 : Int32)
  · have c2 := k2.mpr c
    have c3 := k3 c
    have c4 : nI k ≤ (31 : Int32) := by rw [← c3]; exact c
    have hc : f_X3_doRsOrSi (x1, x2, x3, x4, 136, nI (rn * 16 + sn), nI rn, nI sn, nI a, opl) C G (a1, a2, a3, a4) B K = (0, C, upd G rn ((G rn).toUInt32 >>> ((nI k).toUInt32 &&& Int32.toUInt32 31)).toInt32, (a1, a2, a3, a4), B) := by
      simp (decide := true) only [f_X3_doRsOrSi, f_X3_shift, reg_in _ _ hr, preg_in _ _ hr, k1, if_pos c2, q_let, ↓reduceIte]
    have hm : f_X8_doStored (a1, a2, a3, a4, e, w, s, l, 0, 0, R) (uB B) K G 136 (nI (rn * 16 + sn)) (nI a) = ((a1, a2, a3, a4, e, w, s, l, 0, 0, R), uB (B), upd G rn ((G rn).toUInt32 >>> ((nI k).toUInt32 &&& Int32.toUInt32 31)).toInt32) := by
      simp (decide := true) only [f_X8_doStored, p16, q16, c3, if_pos c4, cr, q_let, ↓reduceIte]
    have hss : s_X8_doStored (a1, a2, a3, a4, e, w, s, l, 0, 0, R) (uB B) K G 136 (nI (rn * 16 + sn)) (nI a) := by
      simp (decide := true) only [s_X8_doStored, p16, q16, c3, if_pos c4, cr, vr, and_self, true_and, and_true, q_let, ↓reduceIte]
    exact ⟨_, _, _, _, _, _, _, hc, hm, Res_ok hw hK, hss⟩
  · have c2 : ¬ (nI a &&& (32 : Int32)) = 0 := fun q => c (k2.mp q)
    have hc : f_X3_doRsOrSi (x1, x2, x3, x4, 136, nI (rn * 16 + sn), nI rn, nI sn, nI a, opl) C G (a1, a2, a3, a4) B K = (0, C, upd G rn 0, (a1, a2, a3, a4), B) := by
      simp (decide := true) only [f_X3_doRsOrSi, f_X3_shift, reg_in _ _ hr, preg_in _ _ hr, k1, if_neg c2, q_let, ↓reduceIte]
    have hm : f_X8_doStored (a1, a2, a3, a4, e, w, s, l, 0, 0, R) (uB B) K G 136 (nI (rn * 16 + sn)) (nI a) = ((a1, a2, a3, a4, e, w, s, l, 0, 0, R), uB (B), upd G rn 0) := by
      simp (decide := true) only [f_X8_doStored, p16, q16, if_neg c, cr, q_let, ↓reduceIte]
    have hss : s_X8_doStored (a1, a2, a3, a4, e, w, s, l, 0, 0, R) (uB B) K G 136 (nI (rn * 16 + sn)) (nI a) := by
      simp (decide := true) only [s_X8_doStored, p16, q16, if_neg c, cr, vr, and_self, true_and, and_true, q_let, ↓reduceIte]
    exact ⟨_, _, _, _, _, _, _, hc, hm, Res_ok hw hK, hss⟩
theorem rs_137 : RSok 137 := by
  intro x1 x2 x3 x4 opl rn sn a C G B K a1 a2 a3 a4 e w s l R hr hs ha hw hK
  have vr : vp_in (nI rn) 16 := vp_in_nI (by omega) (by omega)
  have cr : (nI rn).toNatClampNeg = rn := nI_clamp (by omega)
  have ca : (nI a).toNatClampNeg = a := nI_clamp (by omega)
  have p16 : nI (rn * 16 + sn) / (16 : Int32) = nI rn := (pk_div (d := 16) (by omega) (by omega) (by omega)).trans (by congr 1; omega)
  have q16 : nI (rn * 16 + sn) - nI rn * (16 : Int32) = nI sn := by rw [show nI rn * (16 : Int32) = nI (rn * 16) from pk_mul rn 16, pk_sub (by omega)]; congr 1; omega
  obtain ⟨k, hk, k1, k2, k3⟩ := sh_eq a ha
  by_cases c : (nI a &&& (63 : Int32)) ≤ (31 : Int32)
  · have c2 := k2.mpr c
    have c3 := k3 c
    have c4 : nI k ≤ (31 : Int32) := by rw [← c3]; exact c
    have hc : f_X3_doRsOrSi (x1, x2, x3, x4, 137, nI (rn * 16 + sn), nI rn, nI sn, nI a, opl) C G (a1, a2, a3, a4) B K = (0, C, upd G rn (G rn <<< (nI k &&& 31)), (a1, a2, a3, a4), B) := by
      simp (decide := true) only [f_X3_doRsOrSi, f_X3_shift, reg_in _ _ hr, preg_in _ _ hr, k1, if_pos c2, q_let, ↓reduceIte]
    have hm : f_X8_doStored (a1, a2, a3, a4, e, w, s, l, 0, 0, R) (uB B) K G 137 (nI (rn * 16 + sn)) (nI a) = ((a1, a2, a3, a4, e, w, s, l, 0, 0, R), uB (B), upd G rn (G rn <<< (nI k &&& 31))) := by
      simp (decide := true) only [f_X8_doStored, p16, q16, c3, if_pos c4, cr, q_let, ↓reduceIte]
    have hss : s_X8_doStored (a1, a2, a3, a4, e, w, s, l, 0, 0, R) (uB B) K G 137 (nI (rn * 16 + sn)) (nI a) := by
      simp (decide := true) only [s_X8_doStored, p16, q16, c3, if_pos c4, cr, vr, and_self, true_and, and_true, q_let, ↓reduceIte]
    exact ⟨_, _, _, _, _, _, _, hc, hm, Res_ok hw hK, hss⟩
  · have c2 : ¬ (nI a &&& (32 : Int32)) = 0 := fun q => c (k2.mp q)
    have hc : f_X3_doRsOrSi (x1, x2, x3, x4, 137, nI (rn * 16 + sn), nI rn, nI sn, nI a, opl) C G (a1, a2, a3, a4) B K = (0, C, upd G rn 0, (a1, a2, a3, a4), B) := by
      simp (decide := true) only [f_X3_doRsOrSi, f_X3_shift, reg_in _ _ hr, preg_in _ _ hr, k1, if_neg c2, q_let, ↓reduceIte]
    have hm : f_X8_doStored (a1, a2, a3, a4, e, w, s, l, 0, 0, R) (uB B) K G 137 (nI (rn * 16 + sn)) (nI a) = ((a1, a2, a3, a4, e, w, s, l, 0, 0, R), uB (B), upd G rn 0) := by
      simp (decide := true) only [f_X8_doStored, p16, q16, if_neg c, cr, q_let, ↓reduceIte]
    have hss : s_X8_doStored (a1, a2, a3, a4, e, w, s, l, 0, 0, R) (uB B) K G 137 (nI (rn * 16 + sn)) (nI a) := by
      simp (decide := true) only [s_X8_doStored, p16, q16, if_neg c, cr, vr, and_self, true_and, and_true, q_let, ↓reduceIte]
    exact ⟨_, _, _, _, _, _, _, hc, hm, Res_ok hw hK, hss⟩
theorem rs_138 : RSok 138 := by
  intro x1 x2 x3 x4 opl rn sn a C G B K a1 a2 a3 a4 e w s l R hr hs ha hw hK
  have vr : vp_in (nI rn) 16 := vp_in_nI (by omega) (by omega)
  have cr : (nI rn).toNatClampNeg = rn := nI_clamp (by omega)
  have ca : (nI a).toNatClampNeg = a := nI_clamp (by omega)
  have p16 : nI (rn * 16 + sn) / (16 : Int32) = nI rn := (pk_div (d := 16) (by omega) (by omega) (by omega)).trans (by congr 1; omega)
  have q16 : nI (rn * 16 + sn) - nI rn * (16 : Int32) = nI sn := by rw [show nI rn * (16 : Int32) = nI (rn * 16) from pk_mul rn 16, pk_sub (by omega)]; congr 1; omega
  obtain ⟨k, hk, k1, k2, k3⟩ := sh_eq a ha
  by_cases c : (nI a &&& (63 : Int32)) ≤ (31 : Int32)
  · have c2 := k2.mpr c
    have c3 := k3 c
    have c4 : nI k ≤ (31 : Int32) := by rw [← c3]; exact c
    have hc : f_X3_doRsOrSi (x1, x2, x3, x4, 138, nI (rn * 16 + sn), nI rn, nI sn, nI a, opl) C G (a1, a2, a3, a4) B K = (0, C, upd G rn (G rn >>> (nI k &&& 31)), (a1, a2, od (G rn >>> (nI k &&& 31)).toInt 0, a4), B) := by
      simp (decide := true) only [f_X3_doRsOrSi, f_X3_shiftWithSign, f_X3_shift, reg_in _ _ hr, preg_in _ _ hr, k1, if_pos c2, pk_us, order0, q_let, ↓reduceIte]
    have hm : f_X8_doStored (a1, a2, a3, a4, e, w, s, l, 0, 0, R) (uB B) K G 138 (nI (rn * 16 + sn)) (nI a) = ((a1, a2, od (G rn >>> (nI k &&& 31)).toInt 0, a4, e, w, s, l, 0, 0, R), uB (B), upd G rn (G rn >>> (nI k &&& 31))) := by
      simp (decide := true) only [f_X8_doStored, p16, q16, c3, if_pos c4, cr, pk_us, sign_eq, Int32.toInt_toInt64, q_let, ↓reduceIte]
    have hss : s_X8_doStored (a1, a2, a3, a4, e, w, s, l, 0, 0, R) (uB B) K G 138 (nI (rn * 16 + sn)) (nI a) := by
      simp (decide := true) only [s_X8_doStored, p16, q16, c3, if_pos c4, cr, pk_us, vr, and_self, true_and, and_true, q_let, ↓reduceIte]
    exact ⟨_, _, _, _, _, _, _, hc, hm, Res_ok (Wf_cc hw (od_rg _ _)) hK, hss⟩
  · have c2 : ¬ (nI a &&& (32 : Int32)) = 0 := fun q => c (k2.mp q)
    have hc : f_X3_doRsOrSi (x1, x2, x3, x4, 138, nI (rn * 16 + sn), nI rn, nI sn, nI a, opl) C G (a1, a2, a3, a4) B K = (0, C, upd G rn (G rn >>> ((31 : Int32) &&& 31)), (a1, a2, od (G rn >>> ((31 : Int32) &&& 31)).toInt 0, a4), B) := by
      simp (decide := true) only [f_X3_doRsOrSi, f_X3_shiftWithSign, f_X3_shift, reg_in _ _ hr, preg_in _ _ hr, k1, if_neg c2, pk_us, order0, q_let, ↓reduceIte]
    have hm : f_X8_doStored (a1, a2, a3, a4, e, w, s, l, 0, 0, R) (uB B) K G 138 (nI (rn * 16 + sn)) (nI a) = ((a1, a2, od (G rn >>> ((31 : Int32) &&& 31)).toInt 0, a4, e, w, s, l, 0, 0, R), uB (B), upd G rn (G rn >>> ((31 : Int32) &&& 31))) := by
      simp (decide := true) only [f_X8_doStored, p16, q16, if_neg c, cr, pk_us, sign_eq, Int32.toInt_toInt64, q_let, ↓reduceIte]
    have hss : s_X8_doStored (a1, a2, a3, a4, e, w, s, l, 0, 0, R) (uB B) K G 138 (nI (rn * 16 + sn)) (nI a) := by
      simp (decide := true) only [s_X8_doStored, p16, q16, if_neg c, cr, pk_us, vr, and_self, true_and, and_true, q_let, ↓reduceIte]
    exact ⟨_, _, _, _, _, _, _, hc, hm, Res_ok (Wf_cc hw (od_rg _ _)) hK, hss⟩
theorem rs_144 : RSok 144 := by
  intro x1 x2 x3 x4 opl rn sn a C G B K a1 a2 a3 a4 e w s l R hr hs ha hw hK
  have vr : vp_in (nI rn) 16 := vp_in_nI (by omega) (by omega)
  have cr : (nI rn).toNatClampNeg = rn := nI_clamp (by omega)
  have ca : (nI a).toNatClampNeg = a := nI_clamp (by omega)
  have p16 : nI (rn * 16 + sn) / (16 : Int32) = nI rn := (pk_div (d := 16) (by omega) (by omega) (by omega)).trans (by congr 1; omega)
  have q16 : nI (rn * 16 + sn) - nI rn * (16 : Int32) = nI sn := by rw [show nI rn * (16 : Int32) = nI (rn * 16) from pk_mul rn 16, pk_sub (by omega)]; congr 1; omega
  obtain ⟨N, hN⟩ : ∃ N, N = (sn + 16 - rn) % 16 + 1 := ⟨_, rfl⟩
  have n1 := named_eq x1 x2 x3 x4 144 (nI (rn * 16 + sn)) rn sn (nI a) opl hr hs
  have n2 := (num_eq rn hr sn hs).2
  rw [← hN] at n1 n2
  have n3 : nI N * (4 : Int32) = nI (4 * N) := by rw [Nat.mul_comm]; exact pk_mul N 4
  have n4 : (4 : Int32) * nI N = nI (4 * N) := pk_mul 4 N
  have n5 : ((nI N).toInt - (0 : Int32).toInt).toNat + 1 = N + 1 := fuel_n (by omega)
  have gg := goodS K a (4 * N) 4 2 (nI (4 * N)) 4 rfl (by decide) ha (by omega) (by omega) (by decide) (by omega) a1 a2 a3 a4 e w s l 0 R
  obtain ⟨gd, gs⟩ := gg
  rcases gd with ⟨g1, g2, g3, g4⟩ | ⟨c, c0, c1, g1, g2⟩
  · obtain ⟨B', i1, i2, i3⟩ := stm_loop x1 x2 x3 x4 144 (nI (rn * 16 + sn)) rn sn a N opl hr hs hN g4 G (a1, a2, a3, a4, e, w, s, l, 0, 0, R) N 0 (N + 1) B (by omega) (by omega)
    rw [nI_0] at i1 i2 i3
    have hc : f_X3_doRsOrSi (x1, x2, x3, x4, 144, nI (rn * 16 + sn), nI rn, nI sn, nI a, opl) C G (a1, a2, a3, a4) B K = (0, C, G, (a1, a2, a3, a4), B') := by
      simp (decide := true) only [f_X3_doRsOrSi, f_X3_storeRegisters, n1, n3, n5, g1, i1, q_let, ↓reduceIte]
    have hm : f_X8_doStored (a1, a2, a3, a4, e, w, s, l, 0, 0, R) (uB B) K G 144 (nI (rn * 16 + sn)) (nI a) = ((a1, a2, a3, a4, e, w, s, l, 0, 0, R), uB (B'), G) := by
      simp (decide := true) only [f_X8_doStored, p16, q16, f_X8_several, n2, n4, n5, g2, i2, q_let, ↓reduceIte]
    have hss : s_X8_doStored (a1, a2, a3, a4, e, w, s, l, 0, 0, R) (uB B) K G 144 (nI (rn * 16 + sn)) (nI a) := by
      simp (decide := true) only [s_X8_doStored, p16, q16, s_X8_several, n2, n4, n5, g2, gs, i3, vr, and_self, true_and, and_true, q_let, ↓reduceIte]
    exact ⟨_, _, _, _, _, _, _, hc, hm, Res_ok hw hK, hss⟩
  · have hc : f_X3_doRsOrSi (x1, x2, x3, x4, 144, nI (rn * 16 + sn), nI rn, nI sn, nI a, opl) C G (a1, a2, a3, a4) B K = (c, C, G, (a1, a2, a3, a4), B) := by
      simp (decide := true) only [f_X3_doRsOrSi, f_X3_storeRegisters, n1, n3, g1, if_neg c0, q_let, ↓reduceIte]
    have hm : f_X8_doStored (a1, a2, a3, a4, e, w, s, l, 0, 0, R) (uB B) K G 144 (nI (rn * 16 + sn)) (nI a) = ((a1, a2, a3, a4, e, w, s, l, c, 0, R), uB (B), G) := by
      simp (decide := true) only [f_X8_doStored, p16, q16, f_X8_several, n2, n4, g2, q_let, ↓reduceIte]
    have hss : s_X8_doStored (a1, a2, a3, a4, e, w, s, l, 0, 0, R) (uB B) K G 144 (nI (rn * 16 + sn)) (nI a) := by
      simp (decide := true) only [s_X8_doStored, p16, q16, s_X8_several, n2, n4, g2, gs, vr, and_self, true_and, and_true, q_let, ↓reduceIte]
    exact ⟨_, _, _, _, _, _, _, hc, hm, Res_bad c1 hw hK, hss⟩
theorem rs_152 : RSok 152 := by
  intro x1 x2 x3 x4 opl rn sn a C G B K a1 a2 a3 a4 e w s l R hr hs ha hw hK
  have vr : vp_in (nI rn) 16 := vp_in_nI (by omega) (by omega)
  have cr : (nI rn).toNatClampNeg = rn := nI_clamp (by omega)
  have ca : (nI a).toNatClampNeg = a := nI_clamp (by omega)
  have p16 : nI (rn * 16 + sn) / (16 : Int32) = nI rn := (pk_div (d := 16) (by omega) (by omega) (by omega)).trans (by congr 1; omega)
  have q16 : nI (rn * 16 + sn) - nI rn * (16 : Int32) = nI sn := by rw [show nI rn * (16 : Int32) = nI (rn * 16) from pk_mul rn 16, pk_sub (by omega)]; congr 1; omega
  obtain ⟨N, hN⟩ : ∃ N, N = (sn + 16 - rn) % 16 + 1 := ⟨_, rfl⟩
  have n1 := named_eq x1 x2 x3 x4 152 (nI (rn * 16 + sn)) rn sn (nI a) opl hr hs
  have n2 := (num_eq rn hr sn hs).2
  rw [← hN] at n1 n2
  have n3 : nI N * (4 : Int32) = nI (4 * N) := by rw [Nat.mul_comm]; exact pk_mul N 4
  have n4 : (4 : Int32) * nI N = nI (4 * N) := pk_mul 4 N
  have n5 : ((nI N).toInt - (0 : Int32).toInt).toNat + 1 = N + 1 := fuel_n (by omega)
  have gg := goodR K a (4 * N) 4 2 (nI (4 * N)) 4 rfl (by decide) ha (by omega) (by omega) (by decide) (by omega) a1 a2 a3 a4 e w s l 0 R
  obtain ⟨gd, gs⟩ := gg
  rcases gd with ⟨g1, g2, g3, g4⟩ | ⟨c, c0, c1, g1, g2⟩
  · obtain ⟨G', i1, i2, i3⟩ := lm_loop x1 x2 x3 x4 152 (nI (rn * 16 + sn)) rn sn a N opl hr hs hN g4 B (a1, a2, a3, a4, e, w, s, l, 0, 0, R) N 0 (N + 1) G (by omega) (by omega)
    rw [nI_0] at i1 i2 i3
    have hc : f_X3_doRsOrSi (x1, x2, x3, x4, 152, nI (rn * 16 + sn), nI rn, nI sn, nI a, opl) C G (a1, a2, a3, a4) B K = (0, C, G', (a1, a2, a3, a4), B) := by
      simp (decide := true) only [f_X3_doRsOrSi, f_X3_loadRegisters, n1, n3, n5, g1, i1, q_let, ↓reduceIte]
    have hm : f_X8_doStored (a1, a2, a3, a4, e, w, s, l, 0, 0, R) (uB B) K G 152 (nI (rn * 16 + sn)) (nI a) = ((a1, a2, a3, a4, e, w, s, l, 0, 0, R), uB (B), G') := by
      simp (decide := true) only [f_X8_doStored, p16, q16, f_X8_several, n2, n4, n5, g2, i2, q_let, ↓reduceIte]
    have hss : s_X8_doStored (a1, a2, a3, a4, e, w, s, l, 0, 0, R) (uB B) K G 152 (nI (rn * 16 + sn)) (nI a) := by
      simp (decide := true) only [s_X8_doStored, p16, q16, s_X8_several, n2, n4, n5, g2, gs, i3, vr, and_self, true_and, and_true, q_let, ↓reduceIte]
    exact ⟨_, _, _, _, _, _, _, hc, hm, Res_ok hw hK, hss⟩
  · have hc : f_X3_doRsOrSi (x1, x2, x3, x4, 152, nI (rn * 16 + sn), nI rn, nI sn, nI a, opl) C G (a1, a2, a3, a4) B K = (c, C, G, (a1, a2, a3, a4), B) := by
      simp (decide := true) only [f_X3_doRsOrSi, f_X3_loadRegisters, n1, n3, g1, if_neg c0, q_let, ↓reduceIte]
    have hm : f_X8_doStored (a1, a2, a3, a4, e, w, s, l, 0, 0, R) (uB B) K G 152 (nI (rn * 16 + sn)) (nI a) = ((a1, a2, a3, a4, e, w, s, l, c, 0, R), uB (B), G) := by
      simp (decide := true) only [f_X8_doStored, p16, q16, f_X8_several, n2, n4, g2, q_let, ↓reduceIte]
    have hss : s_X8_doStored (a1, a2, a3, a4, e, w, s, l, 0, 0, R) (uB B) K G 152 (nI (rn * 16 + sn)) (nI a) := by
      simp (decide := true) only [s_X8_doStored, p16, q16, s_X8_several, n2, n4, g2, gs, vr, and_self, true_and, and_true, q_let, ↓reduceIte]
    exact ⟨_, _, _, _, _, _, _, hc, hm, Res_bad c1 hw hK, hss⟩
theorem rs_145 : RSok 145 := by
  intro x1 x2 x3 x4 opl rn sn a C G B K a1 a2 a3 a4 e w s l R hr hs ha hw hK
  have vr : vp_in (nI rn) 16 := vp_in_nI (by omega) (by omega)
  have cr : (nI rn).toNatClampNeg = rn := nI_clamp (by omega)
  have ca : (nI a).toNatClampNeg = a := nI_clamp (by omega)
  have p16 : nI (rn * 16 + sn) / (16 : Int32) = nI rn := (pk_div (d := 16) (by omega) (by omega) (by omega)).trans (by congr 1; omega)
  have q16 : nI (rn * 16 + sn) - nI rn * (16 : Int32) = nI sn := by rw [show nI rn * (16 : Int32) = nI (rn * 16) from pk_mul rn 16, pk_sub (by omega)]; congr 1; omega
  have gg := goodR K a 1 1 0 1 1 (by decide) (by decide) ha (by omega) (by omega) (by decide) (by omega) a1 a2 a3 a4 e w s l 0 R
  obtain ⟨gd, gs⟩ := gg
  rcases gd with ⟨g1, g2, g3, g4⟩ | ⟨c, c0, c1, g1, g2⟩
  · skip
    have va : vp_in (nI a) 2048 := vp_in_nI (by omega) (by omega)
    have hb := byteAt_in B a (by omega)
    by_cases k1 : (uB B a &&& nI (rn * 16 + sn)) = 0
    · skip
      have hc : f_X3_doRsOrSi (x1, x2, x3, x4, 145, nI (rn * 16 + sn), nI rn, nI sn, nI a, opl) C G (a1, a2, a3, a4) B K = (0, C, G, (a1, a2, 0, a4), B) := by
        simp (decide := true) only [f_X3_doRsOrSi, f_X3_testBits, g1, hb, if_pos k1, q_let, ↓reduceIte]
      have hm : f_X8_doStored (a1, a2, a3, a4, e, w, s, l, 0, 0, R) (uB B) K G 145 (nI (rn * 16 + sn)) (nI a) = ((a1, a2, 0, a4, e, w, s, l, 0, 0, R), uB (B), G) := by
        simp (decide := true) only [f_X8_doStored, p16, q16, f_X8_single, g2, ca, if_pos k1, q_let, ↓reduceIte]
      have hss : s_X8_doStored (a1, a2, a3, a4, e, w, s, l, 0, 0, R) (uB B) K G 145 (nI (rn * 16 + sn)) (nI a) := by
        simp (decide := true) only [s_X8_doStored, p16, q16, s_X8_single, g2, gs, va, vr, and_self, true_and, and_true, q_let, ↓reduceIte]
      exact ⟨_, _, _, _, _, _, _, hc, hm, Res_ok (Wf_cc hw ⟨by decide, by decide⟩) hK, hss⟩
    · by_cases k2 : (uB B a &&& nI (rn * 16 + sn)) = nI (rn * 16 + sn)
      · skip
        have hc : f_X3_doRsOrSi (x1, x2, x3, x4, 145, nI (rn * 16 + sn), nI rn, nI sn, nI a, opl) C G (a1, a2, a3, a4) B K = (0, C, G, (a1, a2, 3, a4), B) := by
          simp (decide := true) only [f_X3_doRsOrSi, f_X3_testBits, g1, hb, if_neg k1, if_pos k2, q_let, ↓reduceIte]
        have hm : f_X8_doStored (a1, a2, a3, a4, e, w, s, l, 0, 0, R) (uB B) K G 145 (nI (rn * 16 + sn)) (nI a) = ((a1, a2, 3, a4, e, w, s, l, 0, 0, R), uB (B), G) := by
          simp (decide := true) only [f_X8_doStored, p16, q16, f_X8_single, g2, ca, if_neg k1, if_pos k2, q_let, ↓reduceIte]
        have hss : s_X8_doStored (a1, a2, a3, a4, e, w, s, l, 0, 0, R) (uB B) K G 145 (nI (rn * 16 + sn)) (nI a) := by
          simp (decide := true) only [s_X8_doStored, p16, q16, s_X8_single, g2, gs, va, vr, and_self, true_and, and_true, q_let, ↓reduceIte]
        exact ⟨_, _, _, _, _, _, _, hc, hm, Res_ok (Wf_cc hw ⟨by decide, by decide⟩) hK, hss⟩
      · skip
        have hc : f_X3_doRsOrSi (x1, x2, x3, x4, 145, nI (rn * 16 + sn), nI rn, nI sn, nI a, opl) C G (a1, a2, a3, a4) B K = (0, C, G, (a1, a2, 1, a4), B) := by
          simp (decide := true) only [f_X3_doRsOrSi, f_X3_testBits, g1, hb, if_neg k1, if_neg k2, q_let, ↓reduceIte]
        have hm : f_X8_doStored (a1, a2, a3, a4, e, w, s, l, 0, 0, R) (uB B) K G 145 (nI (rn * 16 + sn)) (nI a) = ((a1, a2, 1, a4, e, w, s, l, 0, 0, R), uB (B), G) := by
          simp (decide := true) only [f_X8_doStored, p16, q16, f_X8_single, g2, ca, if_neg k1, if_neg k2, q_let, ↓reduceIte]
        have hss : s_X8_doStored (a1, a2, a3, a4, e, w, s, l, 0, 0, R) (uB B) K G 145 (nI (rn * 16 + sn)) (nI a) := by
          simp (decide := true) only [s_X8_doStored, p16, q16, s_X8_single, g2, gs, va, vr, and_self, true_and, and_true, q_let, ↓reduceIte]
        exact ⟨_, _, _, _, _, _, _, hc, hm, Res_ok (Wf_cc hw ⟨by decide, by decide⟩) hK, hss⟩
  · have hc : f_X3_doRsOrSi (x1, x2, x3, x4, 145, nI (rn * 16 + sn), nI rn, nI sn, nI a, opl) C G (a1, a2, a3, a4) B K = (c, C, G, (a1, a2, a3, a4), B) := by
      simp (decide := true) only [f_X3_doRsOrSi, f_X3_testBits, g1, if_neg c0, q_let, ↓reduceIte]
    have hm : f_X8_doStored (a1, a2, a3, a4, e, w, s, l, 0, 0, R) (uB B) K G 145 (nI (rn * 16 + sn)) (nI a) = ((a1, a2, a3, a4, e, w, s, l, c, 0, R), uB (B), G) := by
      simp (decide := true) only [f_X8_doStored, p16, q16, g2, q_let, ↓reduceIte]
    have hss : s_X8_doStored (a1, a2, a3, a4, e, w, s, l, 0, 0, R) (uB B) K G 145 (nI (rn * 16 + sn)) (nI a) := by
      simp (decide := true) only [s_X8_doStored, p16, q16, g2, gs, vr, and_self, true_and, and_true, q_let, ↓reduceIte]
    exact ⟨_, _, _, _, _, _, _, hc, hm, Res_bad c1 hw hK, hss⟩
theorem rs_146 : RSok 146 := by
  intro x1 x2 x3 x4 opl rn sn a C G B K a1 a2 a3 a4 e w s l R hr hs ha hw hK
  have vr : vp_in (nI rn) 16 := vp_in_nI (by omega) (by omega)
  have cr : (nI rn).toNatClampNeg = rn := nI_clamp (by omega)
  have ca : (nI a).toNatClampNeg = a := nI_clamp (by omega)
  have p16 : nI (rn * 16 + sn) / (16 : Int32) = nI rn := (pk_div (d := 16) (by omega) (by omega) (by omega)).trans (by congr 1; omega)
  have q16 : nI (rn * 16 + sn) - nI rn * (16 : Int32) = nI sn := by rw [show nI rn * (16 : Int32) = nI (rn * 16) from pk_mul rn 16, pk_sub (by omega)]; congr 1; omega
  have gg := goodS K a 1 1 0 1 1 (by decide) (by decide) ha (by omega) (by omega) (by decide) (by omega) a1 a2 a3 a4 e w s l 0 R
  obtain ⟨gd, gs⟩ := gg
  rcases gd with ⟨g1, g2, g3, g4⟩ | ⟨c, c0, c1, g1, g2⟩
  · skip
    have va : vp_in (nI a) 2048 := vp_in_nI (by omega) (by omega)
    have hb := byteAt_in B a (by omega)
    have hput := uB_putByte B a (nI (rn * 16 + sn)) (by omega)
    rw [and255 (nI_rg (by omega) (by omega))] at hput
    have hc : f_X3_doRsOrSi (x1, x2, x3, x4, 146, nI (rn * 16 + sn), nI rn, nI sn, nI a, opl) C G (a1, a2, a3, a4) B K = (0, C, G, (a1, a2, a3, a4), f_X6_putByte B (nI a) (nI (rn * 16 + sn))) := by
      simp (decide := true) only [f_X3_doRsOrSi, f_X3_storeByte, g1, q_let, ↓reduceIte]
    have hm : f_X8_doStored (a1, a2, a3, a4, e, w, s, l, 0, 0, R) (uB B) K G 146 (nI (rn * 16 + sn)) (nI a) = ((a1, a2, a3, a4, e, w, s, l, 0, 0, R), uB (f_X6_putByte B (nI a) (nI (rn * 16 + sn))), G) := by
      simp (decide := true) only [f_X8_doStored, p16, q16, f_X8_single, g2, ca, hput, q_let, ↓reduceIte]
    have hss : s_X8_doStored (a1, a2, a3, a4, e, w, s, l, 0, 0, R) (uB B) K G 146 (nI (rn * 16 + sn)) (nI a) := by
      simp (decide := true) only [s_X8_doStored, p16, q16, s_X8_single, g2, gs, va, vr, and_self, true_and, and_true, q_let, ↓reduceIte]
    exact ⟨_, _, _, _, _, _, _, hc, hm, Res_ok hw hK, hss⟩
  · have hc : f_X3_doRsOrSi (x1, x2, x3, x4, 146, nI (rn * 16 + sn), nI rn, nI sn, nI a, opl) C G (a1, a2, a3, a4) B K = (c, C, G, (a1, a2, a3, a4), B) := by
      simp (decide := true) only [f_X3_doRsOrSi, f_X3_storeByte, g1, if_neg c0, q_let, ↓reduceIte]
    have hm : f_X8_doStored (a1, a2, a3, a4, e, w, s, l, 0, 0, R) (uB B) K G 146 (nI (rn * 16 + sn)) (nI a) = ((a1, a2, a3, a4, e, w, s, l, c, 0, R), uB (B), G) := by
      simp (decide := true) only [f_X8_doStored, p16, q16, g2, q_let, ↓reduceIte]
    have hss : s_X8_doStored (a1, a2, a3, a4, e, w, s, l, 0, 0, R) (uB B) K G 146 (nI (rn * 16 + sn)) (nI a) := by
      simp (decide := true) only [s_X8_doStored, p16, q16, g2, gs, vr, and_self, true_and, and_true, q_let, ↓reduceIte]
    exact ⟨_, _, _, _, _, _, _, hc, hm, Res_bad c1 hw hK, hss⟩
theorem rs_148 : RSok 148 := by
  intro x1 x2 x3 x4 opl rn sn a C G B K a1 a2 a3 a4 e w s l R hr hs ha hw hK
  have vr : vp_in (nI rn) 16 := vp_in_nI (by omega) (by omega)
  have cr : (nI rn).toNatClampNeg = rn := nI_clamp (by omega)
  have ca : (nI a).toNatClampNeg = a := nI_clamp (by omega)
  have p16 : nI (rn * 16 + sn) / (16 : Int32) = nI rn := (pk_div (d := 16) (by omega) (by omega) (by omega)).trans (by congr 1; omega)
  have q16 : nI (rn * 16 + sn) - nI rn * (16 : Int32) = nI sn := by rw [show nI rn * (16 : Int32) = nI (rn * 16) from pk_mul rn 16, pk_sub (by omega)]; congr 1; omega
  have him : rn * 16 + sn < 256 := by omega
  have gg := goodS K a 1 1 0 1 1 (by decide) (by decide) ha (by omega) (by omega) (by decide) (by omega) a1 a2 a3 a4 e w s l 0 R
  obtain ⟨gd, gs⟩ := gg
  rcases gd with ⟨g1, g2, g3, g4⟩ | ⟨c, c0, c1, g1, g2⟩
  · skip
    have va : vp_in (nI a) 2048 := vp_in_nI (by omega) (by omega)
    have hb := byteAt_in B a (by omega)
    have hb8 : (uB B a &&& nI (rn * 16 + sn)) &&& (255 : Int32) = (uB B a &&& nI (rn * 16 + sn)) := by
      refine b_ext fun i hi => ?_
      rw [b_and, b_255]
      by_cases z : i < 8
      · rw [decide_eq_true z, Bool.and_true]
      · rw [decide_eq_false z, Bool.and_false, b_and, uB_hi B a (by omega), Bool.false_and]
    have hput := uB_putByte B a (uB B a &&& nI (rn * 16 + sn)) (by omega)
    rw [hb8] at hput
    by_cases k1 : (uB B a &&& nI (rn * 16 + sn)) = 0
    · skip
      have hc : f_X3_doRsOrSi (x1, x2, x3, x4, 148, nI (rn * 16 + sn), nI rn, nI sn, nI a, opl) C G (a1, a2, a3, a4) B K = (0, C, G, (a1, a2, 0, a4), f_X6_putByte B (nI a) (uB B a &&& nI (rn * 16 + sn))) := by
        simp (decide := true) only [f_X3_doRsOrSi, f_X3_storeLogical, g1, hb, if_pos k1, q_let, ↓reduceIte]
      have hm : f_X8_doStored (a1, a2, a3, a4, e, w, s, l, 0, 0, R) (uB B) K G 148 (nI (rn * 16 + sn)) (nI a) = ((a1, a2, 0, a4, e, w, s, l, 0, 0, R), uB (f_X6_putByte B (nI a) (uB B a &&& nI (rn * 16 + sn))), G) := by
        simp (decide := true) only [f_X8_doStored, p16, q16, f_X8_single, f_X8_logic, g2, ca, hput, if_pos k1, q_let, ↓reduceIte]
      have hss : s_X8_doStored (a1, a2, a3, a4, e, w, s, l, 0, 0, R) (uB B) K G 148 (nI (rn * 16 + sn)) (nI a) := by
        simp (decide := true) only [s_X8_doStored, p16, q16, s_X8_single, g2, gs, va, vr, and_self, true_and, and_true, q_let, ↓reduceIte]
      exact ⟨_, _, _, _, _, _, _, hc, hm, Res_ok (Wf_cc hw ⟨by decide, by decide⟩) hK, hss⟩
    · skip
      have hc : f_X3_doRsOrSi (x1, x2, x3, x4, 148, nI (rn * 16 + sn), nI rn, nI sn, nI a, opl) C G (a1, a2, a3, a4) B K = (0, C, G, (a1, a2, 1, a4), f_X6_putByte B (nI a) (uB B a &&& nI (rn * 16 + sn))) := by
        simp (decide := true) only [f_X3_doRsOrSi, f_X3_storeLogical, g1, hb, if_neg k1, q_let, ↓reduceIte]
      have hm : f_X8_doStored (a1, a2, a3, a4, e, w, s, l, 0, 0, R) (uB B) K G 148 (nI (rn * 16 + sn)) (nI a) = ((a1, a2, 1, a4, e, w, s, l, 0, 0, R), uB (f_X6_putByte B (nI a) (uB B a &&& nI (rn * 16 + sn))), G) := by
        simp (decide := true) only [f_X8_doStored, p16, q16, f_X8_single, f_X8_logic, g2, ca, hput, if_neg k1, q_let, ↓reduceIte]
      have hss : s_X8_doStored (a1, a2, a3, a4, e, w, s, l, 0, 0, R) (uB B) K G 148 (nI (rn * 16 + sn)) (nI a) := by
        simp (decide := true) only [s_X8_doStored, p16, q16, s_X8_single, g2, gs, va, vr, and_self, true_and, and_true, q_let, ↓reduceIte]
      exact ⟨_, _, _, _, _, _, _, hc, hm, Res_ok (Wf_cc hw ⟨by decide, by decide⟩) hK, hss⟩
  · have hc : f_X3_doRsOrSi (x1, x2, x3, x4, 148, nI (rn * 16 + sn), nI rn, nI sn, nI a, opl) C G (a1, a2, a3, a4) B K = (c, C, G, (a1, a2, a3, a4), B) := by
      simp (decide := true) only [f_X3_doRsOrSi, f_X3_storeLogical, g1, if_neg c0, q_let, ↓reduceIte]
    have hm : f_X8_doStored (a1, a2, a3, a4, e, w, s, l, 0, 0, R) (uB B) K G 148 (nI (rn * 16 + sn)) (nI a) = ((a1, a2, a3, a4, e, w, s, l, c, 0, R), uB (B), G) := by
      simp (decide := true) only [f_X8_doStored, p16, q16, g2, q_let, ↓reduceIte]
    have hss : s_X8_doStored (a1, a2, a3, a4, e, w, s, l, 0, 0, R) (uB B) K G 148 (nI (rn * 16 + sn)) (nI a) := by
      simp (decide := true) only [s_X8_doStored, p16, q16, g2, gs, vr, and_self, true_and, and_true, q_let, ↓reduceIte]
    exact ⟨_, _, _, _, _, _, _, hc, hm, Res_bad c1 hw hK, hss⟩
theorem rs_150 : RSok 150 := by
  intro x1 x2 x3 x4 opl rn sn a C G B K a1 a2 a3 a4 e w s l R hr hs ha hw hK
  have vr : vp_in (nI rn) 16 := vp_in_nI (by omega) (by omega)
  have cr : (nI rn).toNatClampNeg = rn := nI_clamp (by omega)
  have ca : (nI a).toNatClampNeg = a := nI_clamp (by omega)
  have p16 : nI (rn * 16 + sn) / (16 : Int32) = nI rn := (pk_div (d := 16) (by omega) (by omega) (by omega)).trans (by congr 1; omega)
  have q16 : nI (rn * 16 + sn) - nI rn * (16 : Int32) = nI sn := by rw [show nI rn * (16 : Int32) = nI (rn * 16) from pk_mul rn 16, pk_sub (by omega)]; congr 1; omega
  have him : rn * 16 + sn < 256 := by omega
  have gg := goodS K a 1 1 0 1 1 (by decide) (by decide) ha (by omega) (by omega) (by decide) (by omega) a1 a2 a3 a4 e w s l 0 R
  obtain ⟨gd, gs⟩ := gg
  rcases gd with ⟨g1, g2, g3, g4⟩ | ⟨c, c0, c1, g1, g2⟩
  · skip
    have va : vp_in (nI a) 2048 := vp_in_nI (by omega) (by omega)
    have hb := byteAt_in B a (by omega)
    have hb8 : (uB B a ||| nI (rn * 16 + sn)) &&& (255 : Int32) = (uB B a ||| nI (rn * 16 + sn)) := by
      refine b_ext fun i hi => ?_
      rw [b_and, b_255]
      by_cases z : i < 8
      · rw [decide_eq_true z, Bool.and_true]
      · rw [decide_eq_false z, Bool.and_false, b_or, uB_hi B a (by omega), nI_hi him (by omega)]; rfl
    have hput := uB_putByte B a (uB B a ||| nI (rn * 16 + sn)) (by omega)
    rw [hb8] at hput
    by_cases k1 : (uB B a ||| nI (rn * 16 + sn)) = 0
    · skip
      have hc : f_X3_doRsOrSi (x1, x2, x3, x4, 150, nI (rn * 16 + sn), nI rn, nI sn, nI a, opl) C G (a1, a2, a3, a4) B K = (0, C, G, (a1, a2, 0, a4), f_X6_putByte B (nI a) (uB B a ||| nI (rn * 16 + sn))) := by
        simp (decide := true) only [f_X3_doRsOrSi, f_X3_storeLogical, g1, hb, if_pos k1, q_let, ↓reduceIte]
      have hm : f_X8_doStored (a1, a2, a3, a4, e, w, s, l, 0, 0, R) (uB B) K G 150 (nI (rn * 16 + sn)) (nI a) = ((a1, a2, 0, a4, e, w, s, l, 0, 0, R), uB (f_X6_putByte B (nI a) (uB B a ||| nI (rn * 16 + sn))), G) := by
        simp (decide := true) only [f_X8_doStored, p16, q16, f_X8_single, f_X8_logic, g2, ca, hput, if_pos k1, q_let, ↓reduceIte]
      have hss : s_X8_doStored (a1, a2, a3, a4, e, w, s, l, 0, 0, R) (uB B) K G 150 (nI (rn * 16 + sn)) (nI a) := by
        simp (decide := true) only [s_X8_doStored, p16, q16, s_X8_single, g2, gs, va, vr, and_self, true_and, and_true, q_let, ↓reduceIte]
      exact ⟨_, _, _, _, _, _, _, hc, hm, Res_ok (Wf_cc hw ⟨by decide, by decide⟩) hK, hss⟩
    · skip
      have hc : f_X3_doRsOrSi (x1, x2, x3, x4, 150, nI (rn * 16 + sn), nI rn, nI sn, nI a, opl) C G (a1, a2, a3, a4) B K = (0, C, G, (a1, a2, 1, a4), f_X6_putByte B (nI a) (uB B a ||| nI (rn * 16 + sn))) := by
        simp (decide := true) only [f_X3_doRsOrSi, f_X3_storeLogical, g1, hb, if_neg k1, q_let, ↓reduceIte]
      have hm : f_X8_doStored (a1, a2, a3, a4, e, w, s, l, 0, 0, R) (uB B) K G 150 (nI (rn * 16 + sn)) (nI a) = ((a1, a2, 1, a4, e, w, s, l, 0, 0, R), uB (f_X6_putByte B (nI a) (uB B a ||| nI (rn * 16 + sn))), G) := by
        simp (decide := true) only [f_X8_doStored, p16, q16, f_X8_single, f_X8_logic, g2, ca, hput, if_neg k1, q_let, ↓reduceIte]
      have hss : s_X8_doStored (a1, a2, a3, a4, e, w, s, l, 0, 0, R) (uB B) K G 150 (nI (rn * 16 + sn)) (nI a) := by
        simp (decide := true) only [s_X8_doStored, p16, q16, s_X8_single, g2, gs, va, vr, and_self, true_and, and_true, q_let, ↓reduceIte]
      exact ⟨_, _, _, _, _, _, _, hc, hm, Res_ok (Wf_cc hw ⟨by decide, by decide⟩) hK, hss⟩
  · have hc : f_X3_doRsOrSi (x1, x2, x3, x4, 150, nI (rn * 16 + sn), nI rn, nI sn, nI a, opl) C G (a1, a2, a3, a4) B K = (c, C, G, (a1, a2, a3, a4), B) := by
      simp (decide := true) only [f_X3_doRsOrSi, f_X3_storeLogical, g1, if_neg c0, q_let, ↓reduceIte]
    have hm : f_X8_doStored (a1, a2, a3, a4, e, w, s, l, 0, 0, R) (uB B) K G 150 (nI (rn * 16 + sn)) (nI a) = ((a1, a2, a3, a4, e, w, s, l, c, 0, R), uB (B), G) := by
      simp (decide := true) only [f_X8_doStored, p16, q16, g2, q_let, ↓reduceIte]
    have hss : s_X8_doStored (a1, a2, a3, a4, e, w, s, l, 0, 0, R) (uB B) K G 150 (nI (rn * 16 + sn)) (nI a) := by
      simp (decide := true) only [s_X8_doStored, p16, q16, g2, gs, vr, and_self, true_and, and_true, q_let, ↓reduceIte]
    exact ⟨_, _, _, _, _, _, _, hc, hm, Res_bad c1 hw hK, hss⟩
theorem rs_149 : RSok 149 := by
  intro x1 x2 x3 x4 opl rn sn a C G B K a1 a2 a3 a4 e w s l R hr hs ha hw hK
  have vr : vp_in (nI rn) 16 := vp_in_nI (by omega) (by omega)
  have cr : (nI rn).toNatClampNeg = rn := nI_clamp (by omega)
  have ca : (nI a).toNatClampNeg = a := nI_clamp (by omega)
  have p16 : nI (rn * 16 + sn) / (16 : Int32) = nI rn := (pk_div (d := 16) (by omega) (by omega) (by omega)).trans (by congr 1; omega)
  have q16 : nI (rn * 16 + sn) - nI rn * (16 : Int32) = nI sn := by rw [show nI rn * (16 : Int32) = nI (rn * 16) from pk_mul rn 16, pk_sub (by omega)]; congr 1; omega
  have gg := goodR K a 1 1 0 1 1 (by decide) (by decide) ha (by omega) (by omega) (by decide) (by omega) a1 a2 a3 a4 e w s l 0 R
  obtain ⟨gd, gs⟩ := gg
  rcases gd with ⟨g1, g2, g3, g4⟩ | ⟨c, c0, c1, g1, g2⟩
  · skip
    have va : vp_in (nI a) 2048 := vp_in_nI (by omega) (by omega)
    have hb := byteAt_in B a (by omega)
    have hc : f_X3_doRsOrSi (x1, x2, x3, x4, 149, nI (rn * 16 + sn), nI rn, nI sn, nI a, opl) C G (a1, a2, a3, a4) B K = (0, C, G, (a1, a2, od (uB B a).toInt (nI (rn * 16 + sn)).toInt, a4), B) := by
      simp (decide := true) only [f_X3_doRsOrSi, f_X3_compareByte, g1, hb, orderI, q_let, ↓reduceIte]
    have hm : f_X8_doStored (a1, a2, a3, a4, e, w, s, l, 0, 0, R) (uB B) K G 149 (nI (rn * 16 + sn)) (nI a) = ((a1, a2, od (uB B a).toInt (nI (rn * 16 + sn)).toInt, a4, e, w, s, l, 0, 0, R), uB (B), G) := by
      simp (decide := true) only [f_X8_doStored, p16, q16, f_X8_single, g2, ca, cmp_eq, q_let, ↓reduceIte]
    have hss : s_X8_doStored (a1, a2, a3, a4, e, w, s, l, 0, 0, R) (uB B) K G 149 (nI (rn * 16 + sn)) (nI a) := by
      simp (decide := true) only [s_X8_doStored, p16, q16, s_X8_single, g2, gs, va, vr, and_self, true_and, and_true, q_let, ↓reduceIte]
    exact ⟨_, _, _, _, _, _, _, hc, hm, Res_ok (Wf_cc hw (od_rg _ _)) hK, hss⟩
  · have hc : f_X3_doRsOrSi (x1, x2, x3, x4, 149, nI (rn * 16 + sn), nI rn, nI sn, nI a, opl) C G (a1, a2, a3, a4) B K = (c, C, G, (a1, a2, a3, a4), B) := by
      simp (decide := true) only [f_X3_doRsOrSi, f_X3_compareByte, g1, if_neg c0, q_let, ↓reduceIte]
    have hm : f_X8_doStored (a1, a2, a3, a4, e, w, s, l, 0, 0, R) (uB B) K G 149 (nI (rn * 16 + sn)) (nI a) = ((a1, a2, a3, a4, e, w, s, l, c, 0, R), uB (B), G) := by
      simp (decide := true) only [f_X8_doStored, p16, q16, g2, q_let, ↓reduceIte]
    have hss : s_X8_doStored (a1, a2, a3, a4, e, w, s, l, 0, 0, R) (uB B) K G 149 (nI (rn * 16 + sn)) (nI a) := by
      simp (decide := true) only [s_X8_doStored, p16, q16, g2, gs, vr, and_self, true_and, and_true, q_let, ↓reduceIte]
    exact ⟨_, _, _, _, _, _, _, hc, hm, Res_bad c1 hw hK, hss⟩
