/-! the instructions of six bytes -/
theorem mvc_loop (x1 : Bool) (x2 x3 x4 op rx sx : Int32) (im a q : Nat) (him : im < 256) (ha : a + (im + 1) ≤ 2048) (hq : q + (im + 1) ≤ 2048) (one two : rw_) (o : tO) : ∀ (d k fuel : Nat) (B : rw_), k + d = im + 1 → d < fuel →
    ∃ B', f_X3_moveBytes_L31 (x1, x2, x3, x4, op, nI im, rx, sx, nI a, nI q) fuel B (nI k) = (0, B') ∧ f_X8_doStrings_L105bbbb one two 210 (nI im) (nI a) (nI q) fuel o (uB B) (nI k) = (o, uB B', one, two) ∧ s_X8_doStrings_L105bbbb 210 (nI im) (nI a) (nI q) fuel o (uB B) (nI k) := by
  have e1 : nI im + (1 : Int32) = nI (im + 1) := nI_1 im
  intro d
  induction d with
  | zero =>
    intro k fuel B h1 h2
    obtain ⟨f, rfl⟩ : ∃ f, fuel = f + 1 := ⟨fuel - 1, by omega⟩
    refine ⟨B, ?_, ?_, ?_⟩
    · rw [f_X3_moveBytes_L31]
      dsimp only
      rw [e1, if_pos (nI_le (by omega) (by omega))]
    · rw [f_X8_doStrings_L105bbbb, e1, if_pos (nI_le (by omega) (by omega))]
    · rw [s_X8_doStrings_L105bbbb, e1, if_pos (nI_le (by omega) (by omega))]; trivial
  | succ d ih =>
    intro k fuel B h1 h2
    obtain ⟨f, rfl⟩ : ∃ f, fuel = f + 1 := ⟨fuel - 1, by omega⟩
    have e2 : nI a + nI k = nI (a + k) := nI_add a k
    have e3 : nI k + (1 : Int32) = nI (k + 1) := nI_1 k
    have hba := nB_lt B (a + k)
    have e4 : nI q + nI k = nI (q + k) := nI_add q k
    have e6 : f_X6_byteAt B (nI (q + k)) = uB B (q + k) := byteAt_in B _ (by omega)
    have hput : uB (f_X6_putByte B (nI (a + k)) (uB B (q + k))) = upd (uB B) (a + k) (uB B (q + k)) := by
      have hl := nB_lt B (q + k)
      rw [uB_putByte B (a + k) _ (by omega), and255 (by rw [uB_nB]; exact nI_rg (by omega) (by omega))]
    obtain ⟨B', i1, i2, i3⟩ := ih (k + 1) f (f_X6_putByte B (nI (a + k)) (uB B (q + k))) (by omega) (by omega)
    rw [hput] at i2 i3
    refine ⟨B', ?_, ?_, ?_⟩
    · rw [f_X3_moveBytes_L31]
      dsimp only
      rw [e1, if_neg (nI_ge (by omega) (by omega)), e2, e4, e6, e3]
      exact i1
    · rw [f_X8_doStrings_L105bbbb, e1, if_neg (nI_ge (by omega) (by omega)), e2, e3]
      rw [if_pos rfl, e4, nI_clamp (by omega), nI_clamp (by omega)]
      exact i2
    · rw [s_X8_doStrings_L105bbbb, e1, if_neg (nI_ge (by omega) (by omega)), e2, e3]
      rw [if_pos rfl, e4, nI_clamp (by omega), nI_clamp (by omega)]
      exact ⟨vp_in_nI (by omega) (by omega), vp_in_nI (by omega) (by omega), i3⟩
theorem trn_loop (x1 : Bool) (x2 x3 x4 op rx sx : Int32) (im a q : Nat) (him : im < 256) (ha : a + (im + 1) ≤ 2048) (hq : q + 256 ≤ 2048) (one two : rw_) (o : tO) : ∀ (d k fuel : Nat) (B : rw_), k + d = im + 1 → d < fuel →
    ∃ B', f_X3_translateBytes_L33 (x1, x2, x3, x4, op, nI im, rx, sx, nI a, nI q) fuel B (nI k) = (0, B') ∧ f_X8_doStrings_L105bbbbbb one two 220 (nI im) (nI a) (nI q) fuel o (uB B) (nI k) = (o, uB B', one, two) ∧ s_X8_doStrings_L105bbbbbb 220 (nI im) (nI a) (nI q) fuel o (uB B) (nI k) := by
  have e1 : nI im + (1 : Int32) = nI (im + 1) := nI_1 im
  intro d
  induction d with
  | zero =>
    intro k fuel B h1 h2
    obtain ⟨f, rfl⟩ : ∃ f, fuel = f + 1 := ⟨fuel - 1, by omega⟩
    refine ⟨B, ?_, ?_, ?_⟩
    · rw [f_X3_translateBytes_L33]
      dsimp only
      rw [e1, if_pos (nI_le (by omega) (by omega))]
    · rw [f_X8_doStrings_L105bbbbbb, e1, if_pos (nI_le (by omega) (by omega))]
    · rw [s_X8_doStrings_L105bbbbbb, e1, if_pos (nI_le (by omega) (by omega))]; trivial
  | succ d ih =>
    intro k fuel B h1 h2
    obtain ⟨f, rfl⟩ : ∃ f, fuel = f + 1 := ⟨fuel - 1, by omega⟩
    have e2 : nI a + nI k = nI (a + k) := nI_add a k
    have e3 : nI k + (1 : Int32) = nI (k + 1) := nI_1 k
    have hba := nB_lt B (a + k)
    have e4 : nI q + uB B (a + k) = nI (q + nB B (a + k)) := by rw [uB_nB, nI_add]
    have e5 : f_X6_byteAt B (nI (a + k)) = uB B (a + k) := byteAt_in B (a + k) (by omega)
    have e6 : f_X6_byteAt B (nI (q + nB B (a + k))) = uB B (q + nB B (a + k)) := byteAt_in B _ (by omega)
    have hput : uB (f_X6_putByte B (nI (a + k)) (uB B (q + nB B (a + k)))) = upd (uB B) (a + k) (uB B (q + nB B (a + k))) := by
      have hl := nB_lt B (q + nB B (a + k))
      rw [uB_putByte B (a + k) _ (by omega), and255 (by rw [uB_nB]; exact nI_rg (by omega) (by omega))]
    obtain ⟨B', i1, i2, i3⟩ := ih (k + 1) f (f_X6_putByte B (nI (a + k)) (uB B (q + nB B (a + k)))) (by omega) (by omega)
    rw [hput] at i2 i3
    refine ⟨B', ?_, ?_, ?_⟩
    · rw [f_X3_translateBytes_L33]
      dsimp only
      rw [e1, if_neg (nI_ge (by omega) (by omega)), e2, e5, e4, e6, e3]
      exact i1
    · rw [f_X8_doStrings_L105bbbbbb, e1, if_neg (nI_ge (by omega) (by omega)), e2, e3]
      rw [if_neg (by decide), if_pos rfl, nI_clamp (show a + k < 2 ^ 31 by omega), e4, nI_clamp (by omega)]
      exact i2
    · rw [s_X8_doStrings_L105bbbbbb, e1, if_neg (nI_ge (by omega) (by omega)), e2, e3]
      rw [if_neg (by decide), if_pos rfl, nI_clamp (show a + k < 2 ^ 31 by omega), e4, nI_clamp (by omega)]
      exact ⟨vp_in_nI (by omega) (by omega), vp_in_nI (by omega) (by omega), vp_in_nI (by omega) (by omega), i3⟩
theorem clc_done (im a q : Nat) (him : im < 256) (one two b : rw_) (a1 a2 cc a4 : Int32) (e w : Bool) (s l f0 t0 : Int32) (R : tR) (hc : ¬ cc = 0) : ∀ (d k fuel : Nat), k + d = im + 1 → d < fuel →
    f_X8_doStrings_L105b one two 213 (nI im) (nI a) (nI q) fuel (a1, a2, cc, a4, e, w, s, l, f0, t0, R) b (nI k) = ((a1, a2, cc, a4, e, w, s, l, f0, t0, R), b, one, two) ∧ s_X8_doStrings_L105b 213 (nI im) (nI a) (nI q) fuel (a1, a2, cc, a4, e, w, s, l, f0, t0, R) b (nI k) := by
  have e1 : nI im + (1 : Int32) = nI (im + 1) := nI_1 im
  intro d
  induction d with
  | zero =>
    intro k fuel h1 h2
    obtain ⟨f, rfl⟩ : ∃ f, fuel = f + 1 := ⟨fuel - 1, by omega⟩
    rw [f_X8_doStrings_L105b, s_X8_doStrings_L105b, e1, if_pos (nI_le (by omega) (by omega)), if_pos (nI_le (by omega) (by omega))]
    exact ⟨rfl, trivial⟩
  | succ d ih =>
    intro k fuel h1 h2
    obtain ⟨f, rfl⟩ : ∃ f, fuel = f + 1 := ⟨fuel - 1, by omega⟩
    have e3 : nI k + (1 : Int32) = nI (k + 1) := nI_1 k
    rw [f_X8_doStrings_L105b, s_X8_doStrings_L105b, e1, if_neg (nI_ge (by omega) (by omega)), if_neg (nI_ge (by omega) (by omega)), if_neg (show ¬ (213 : Int32) = 210 by decide), if_neg (show ¬ (213 : Int32) = 210 by decide), if_neg (show ¬ (213 : Int32) = 220 by decide), if_neg (show ¬ (213 : Int32) = 220 by decide), e3]
    dsimp only
    rw [if_neg hc, if_neg hc]
    exact ih (k + 1) f (by omega) (by omega)
theorem clc_loop (x1 : Bool) (x2 x3 x4 op rx sx : Int32) (im a q : Nat) (him : im < 256) (ha : a + (im + 1) ≤ 2048) (hq : q + (im + 1) ≤ 2048) (one two B : rw_) (a1 a2 a4 : Int32) (e w : Bool) (s l f0 t0 : Int32) (R : tR) : ∀ (d k fuel : Nat) (cc : Int32), rg cc 4 → k + d = im + 1 → d < fuel →
    ∃ cc', f_X3_compareBytes_L38 (x1, x2, x3, x4, op, nI im, rx, sx, nI a, nI q) B fuel (a1, a2, cc, a4) (nI k) = (0, (a1, a2, cc', a4)) ∧ f_X8_doStrings_L105b one two 213 (nI im) (nI a) (nI q) fuel (a1, a2, cc, a4, e, w, s, l, f0, t0, R) (uB B) (nI k) = ((a1, a2, cc', a4, e, w, s, l, f0, t0, R), uB B, one, two) ∧ rg cc' 4 ∧ s_X8_doStrings_L105b 213 (nI im) (nI a) (nI q) fuel (a1, a2, cc, a4, e, w, s, l, f0, t0, R) (uB B) (nI k) := by
  have e1 : nI im + (1 : Int32) = nI (im + 1) := nI_1 im
  intro d
  induction d with
  | zero =>
    intro k fuel cc hcc h1 h2
    obtain ⟨f, rfl⟩ : ∃ f, fuel = f + 1 := ⟨fuel - 1, by omega⟩
    refine ⟨cc, ?_, ?_, hcc, ?_⟩
    · rw [f_X3_compareBytes_L38]
      dsimp only
      rw [e1, if_pos (nI_le (by omega) (by omega))]
    · rw [f_X8_doStrings_L105b, e1, if_pos (nI_le (by omega) (by omega))]
    · rw [s_X8_doStrings_L105b, e1, if_pos (nI_le (by omega) (by omega))]; trivial
  | succ d ih =>
    intro k fuel cc hcc h1 h2
    by_cases hc : cc = 0
    · obtain ⟨f, rfl⟩ : ∃ f, fuel = f + 1 := ⟨fuel - 1, by omega⟩
      subst hc
      have e2 : nI a + nI k = nI (a + k) := nI_add a k
      have e3 : nI k + (1 : Int32) = nI (k + 1) := nI_1 k
      have e4 : nI q + nI k = nI (q + k) := nI_add q k
      have e5 : f_X6_byteAt B (nI (a + k)) = uB B (a + k) := byteAt_in B (a + k) (by omega)
      have e6 : f_X6_byteAt B (nI (q + k)) = uB B (q + k) := byteAt_in B (q + k) (by omega)
      obtain ⟨cc', i1, i2, i3, i4⟩ := ih (k + 1) f (od (uB B (a + k)).toInt (uB B (q + k)).toInt) (od_rg _ _) (by omega) (by omega)
      refine ⟨cc', ?_, ?_, i3, ?_⟩
      · rw [f_X3_compareBytes_L38]
        dsimp only
        rw [e1, if_neg (nI_ge (by omega) (by omega)), if_pos rfl, e2, e4, e5, e6, orderI, e3]
        exact i1
      · rw [f_X8_doStrings_L105b, e1, if_neg (nI_ge (by omega) (by omega)), if_neg (by decide), if_neg (by decide), e2, e3, e4, nI_clamp (by omega), nI_clamp (by omega)]
        dsimp only
        rw [if_pos rfl, cmp_eq]
        exact i2
      · rw [s_X8_doStrings_L105b, e1, if_neg (nI_ge (by omega) (by omega)), if_neg (by decide), if_neg (by decide), e2, e3, e4, nI_clamp (by omega), nI_clamp (by omega)]
        dsimp only
        rw [if_pos rfl, cmp_eq]
        exact ⟨vp_in_nI (by omega) (by omega), vp_in_nI (by omega) (by omega), i4⟩
    · obtain ⟨z1, z2⟩ := clc_done im a q him one two (uB B) a1 a2 cc a4 e w s l f0 t0 R hc (d + 1) k fuel (by omega) (by omega)
      refine ⟨cc, ?_, z1, hcc, z2⟩
      obtain ⟨f, rfl⟩ : ∃ f, fuel = f + 1 := ⟨fuel - 1, by omega⟩
      rw [f_X3_compareBytes_L38]
      dsimp only
      rw [e1, if_neg (nI_ge (by omega) (by omega)), if_neg hc]
def SSok (op : Int32) : Prop := ∀ (x1 : Bool) (x2 x3 x4 : Int32) (rn sn a q : Nat) (F : Bool) (Fd : rw_) (Z : Bool) (Zd G B K one two : rw_) (a1 a2 a3 a4 : Int32) (e w : Bool) (s l : Int32) (R : tR), rn < 16 → sn < 16 → a < 2 ^ 24 → q < 2 ^ 24 → Wf a1 a2 a3 a4 → (∀ i, rg (K i) 16) →
  ∃ code F' Fd' Z' Zd' T' B' o' b' one' two', f_X3_doSs (x1, x2, x3, x4, op, nI (rn * 16 + sn), nI rn, nI sn, nI a, nI q) F Fd Z Zd (a1, a2, a3, a4) B K = (code, F', Fd', Z', Zd', T', B') ∧ f_X8_doStrings (a1, a2, a3, a4, e, w, s, l, 0, 0, R) (uB B) K one two op (nI (rn * 16 + sn)) (nI a) (nI q) = (o', b', one', two') ∧ Res code G T' B' K o' b' K G e w s l R ∧ s_X8_doStrings (a1, a2, a3, a4, e, w, s, l, 0, 0, R) (uB B) K one two op (nI (rn * 16 + sn)) (nI a) (nI q)
theorem ss_210 : SSok 210 := by
  intro x1 x2 x3 x4 rn sn a q F Fd Z Zd G B K one two a1 a2 a3 a4 e w s l R hr hs ha hq hw hK
  obtain ⟨im, him⟩ : ∃ im, im = rn * 16 + sn := ⟨_, rfl⟩
  have him2 : im < 256 := by omega
  have e1 : nI im + (1 : Int32) = nI (im + 1) := nI_1 im
  have hfu : ((nI (im + 1)).toInt - (0 : Int32).toInt).toNat + 1 = im + 1 + 1 := fuel_n (by omega)
  rw [← him]
  obtain ⟨gd, gs⟩ := goodS K a (im + 1) 1 0 (nI (im + 1)) 1 rfl (by decide) ha (by omega) (by omega) (by decide) (by omega) a1 a2 a3 a4 e w s l 0 R
  obtain ⟨hd, ht⟩ := goodR K q (im + 1) 1 0 (nI (im + 1)) 1 rfl (by decide) hq (by omega) (by omega) (by decide) (by omega) a1 a2 a3 a4 e w s l 0 R
  rcases gd with ⟨g1, g2, g3, g4⟩ | ⟨c, c0, c1, g1, g2⟩
  · rcases hd with ⟨k1, k2, k3, k4⟩ | ⟨c, c0, c1, k1, k2⟩
    · obtain ⟨B', i1, i2, i3⟩ := mvc_loop x1 x2 x3 x4 210 (nI rn) (nI sn) im a q him2 g4 k4 one two (a1, a2, a3, a4, e, w, s, l, 0, 0, R) (im + 1) 0 (im + 1 + 1) B (by omega) (by omega)
      rw [nI_0] at i1 i2 i3
      have hc : f_X3_doSs (x1, x2, x3, x4, 210, nI im, nI rn, nI sn, nI a, nI q) F Fd Z Zd (a1, a2, a3, a4) B K = (0, F, Fd, Z, Zd, (a1, a2, a3, a4), B') := by
        simp (decide := true) only [f_X3_doSs, f_X3_moveBytes, f_X3_faultOfPair, e1, hfu, g1, k1, i1, q_let, ↓reduceIte]
      have hm : f_X8_doStrings (a1, a2, a3, a4, e, w, s, l, 0, 0, R) (uB B) K one two 210 (nI im) (nI a) (nI q) = ((a1, a2, a3, a4, e, w, s, l, 0, 0, R), uB (B'), one, two) := by
        simp (decide := true) only [f_X8_doStrings, e1, hfu, g2, k2, i2, q_let, ↓reduceIte]
      have hss : s_X8_doStrings (a1, a2, a3, a4, e, w, s, l, 0, 0, R) (uB B) K one two 210 (nI im) (nI a) (nI q) := by
        simp (decide := true) only [s_X8_doStrings, e1, hfu, g2, gs, k2, ht, i3, and_self, true_and, and_true, q_let, ↓reduceIte]
      exact ⟨_, _, _, _, _, _, _, _, _, _, _, hc, hm, Res_ok hw hK (G' := G), hss⟩
    · have hc : f_X3_doSs (x1, x2, x3, x4, 210, nI im, nI rn, nI sn, nI a, nI q) F Fd Z Zd (a1, a2, a3, a4) B K = (c, F, Fd, Z, Zd, (a1, a2, a3, a4), B) := by
        simp (decide := true) only [f_X3_doSs, f_X3_moveBytes, e1, f_X3_faultOfPair, g1, k1, if_neg c0, q_let, ↓reduceIte]
      have hm : f_X8_doStrings (a1, a2, a3, a4, e, w, s, l, 0, 0, R) (uB B) K one two 210 (nI im) (nI a) (nI q) = ((a1, a2, a3, a4, e, w, s, l, c, 0, R), uB (B), one, two) := by
        simp (decide := true) only [f_X8_doStrings, e1, g2, k2, q_let, ↓reduceIte]
      have hss : s_X8_doStrings (a1, a2, a3, a4, e, w, s, l, 0, 0, R) (uB B) K one two 210 (nI im) (nI a) (nI q) := by
        simp (decide := true) only [s_X8_doStrings, e1, g2, gs, k2, ht, and_self, true_and, and_true, q_let, ↓reduceIte]
      exact ⟨_, _, _, _, _, _, _, _, _, _, _, hc, hm, Res_bad c1 hw hK (G' := G), hss⟩
  · have hc : f_X3_doSs (x1, x2, x3, x4, 210, nI im, nI rn, nI sn, nI a, nI q) F Fd Z Zd (a1, a2, a3, a4) B K = (c, F, Fd, Z, Zd, (a1, a2, a3, a4), B) := by
      simp (decide := true) only [f_X3_doSs, f_X3_moveBytes, e1, f_X3_faultOfPair, g1, if_neg c0, q_let, ↓reduceIte]
    have hm : f_X8_doStrings (a1, a2, a3, a4, e, w, s, l, 0, 0, R) (uB B) K one two 210 (nI im) (nI a) (nI q) = ((a1, a2, a3, a4, e, w, s, l, c, 0, R), uB (B), one, two) := by
      simp (decide := true) only [f_X8_doStrings, e1, g2, q_let, ↓reduceIte]
    have hss : s_X8_doStrings (a1, a2, a3, a4, e, w, s, l, 0, 0, R) (uB B) K one two 210 (nI im) (nI a) (nI q) := by
      simp (decide := true) only [s_X8_doStrings, e1, g2, gs, and_self, true_and, and_true, q_let, ↓reduceIte]
    exact ⟨_, _, _, _, _, _, _, _, _, _, _, hc, hm, Res_bad c1 hw hK (G' := G), hss⟩
theorem ss_220 : SSok 220 := by
  intro x1 x2 x3 x4 rn sn a q F Fd Z Zd G B K one two a1 a2 a3 a4 e w s l R hr hs ha hq hw hK
  obtain ⟨im, him⟩ : ∃ im, im = rn * 16 + sn := ⟨_, rfl⟩
  have him2 : im < 256 := by omega
  have e1 : nI im + (1 : Int32) = nI (im + 1) := nI_1 im
  have hfu : ((nI (im + 1)).toInt - (0 : Int32).toInt).toNat + 1 = im + 1 + 1 := fuel_n (by omega)
  rw [← him]
  obtain ⟨gd, gs⟩ := goodS K a (im + 1) 1 0 (nI (im + 1)) 1 rfl (by decide) ha (by omega) (by omega) (by decide) (by omega) a1 a2 a3 a4 e w s l 0 R
  obtain ⟨hd, ht⟩ := goodR K q (256) 1 0 (256) 1 (by decide) (by decide) hq (by omega) (by omega) (by decide) (by omega) a1 a2 a3 a4 e w s l 0 R
  rcases gd with ⟨g1, g2, g3, g4⟩ | ⟨c, c0, c1, g1, g2⟩
  · rcases hd with ⟨k1, k2, k3, k4⟩ | ⟨c, c0, c1, k1, k2⟩
    · obtain ⟨B', i1, i2, i3⟩ := trn_loop x1 x2 x3 x4 220 (nI rn) (nI sn) im a q him2 g4 k4 one two (a1, a2, a3, a4, e, w, s, l, 0, 0, R) (im + 1) 0 (im + 1 + 1) B (by omega) (by omega)
      rw [nI_0] at i1 i2 i3
      have hc : f_X3_doSs (x1, x2, x3, x4, 220, nI im, nI rn, nI sn, nI a, nI q) F Fd Z Zd (a1, a2, a3, a4) B K = (0, F, Fd, Z, Zd, (a1, a2, a3, a4), B') := by
        simp (decide := true) only [f_X3_doSs, f_X3_translateBytes, f_X3_faultOfPair, e1, hfu, g1, k1, i1, q_let, ↓reduceIte]
      have hm : f_X8_doStrings (a1, a2, a3, a4, e, w, s, l, 0, 0, R) (uB B) K one two 220 (nI im) (nI a) (nI q) = ((a1, a2, a3, a4, e, w, s, l, 0, 0, R), uB (B'), one, two) := by
        simp (decide := true) only [f_X8_doStrings, e1, hfu, g2, k2, i2, q_let, ↓reduceIte]
      have hss : s_X8_doStrings (a1, a2, a3, a4, e, w, s, l, 0, 0, R) (uB B) K one two 220 (nI im) (nI a) (nI q) := by
        simp (decide := true) only [s_X8_doStrings, e1, hfu, g2, gs, k2, ht, i3, and_self, true_and, and_true, q_let, ↓reduceIte]
      exact ⟨_, _, _, _, _, _, _, _, _, _, _, hc, hm, Res_ok hw hK (G' := G), hss⟩
    · have hc : f_X3_doSs (x1, x2, x3, x4, 220, nI im, nI rn, nI sn, nI a, nI q) F Fd Z Zd (a1, a2, a3, a4) B K = (c, F, Fd, Z, Zd, (a1, a2, a3, a4), B) := by
        simp (decide := true) only [f_X3_doSs, f_X3_translateBytes, e1, f_X3_faultOfPair, g1, k1, if_neg c0, q_let, ↓reduceIte]
      have hm : f_X8_doStrings (a1, a2, a3, a4, e, w, s, l, 0, 0, R) (uB B) K one two 220 (nI im) (nI a) (nI q) = ((a1, a2, a3, a4, e, w, s, l, c, 0, R), uB (B), one, two) := by
        simp (decide := true) only [f_X8_doStrings, e1, g2, k2, q_let, ↓reduceIte]
      have hss : s_X8_doStrings (a1, a2, a3, a4, e, w, s, l, 0, 0, R) (uB B) K one two 220 (nI im) (nI a) (nI q) := by
        simp (decide := true) only [s_X8_doStrings, e1, g2, gs, k2, ht, and_self, true_and, and_true, q_let, ↓reduceIte]
      exact ⟨_, _, _, _, _, _, _, _, _, _, _, hc, hm, Res_bad c1 hw hK (G' := G), hss⟩
  · have hc : f_X3_doSs (x1, x2, x3, x4, 220, nI im, nI rn, nI sn, nI a, nI q) F Fd Z Zd (a1, a2, a3, a4) B K = (c, F, Fd, Z, Zd, (a1, a2, a3, a4), B) := by
      simp (decide := true) only [f_X3_doSs, f_X3_translateBytes, e1, f_X3_faultOfPair, g1, if_neg c0, q_let, ↓reduceIte]
    have hm : f_X8_doStrings (a1, a2, a3, a4, e, w, s, l, 0, 0, R) (uB B) K one two 220 (nI im) (nI a) (nI q) = ((a1, a2, a3, a4, e, w, s, l, c, 0, R), uB (B), one, two) := by
      simp (decide := true) only [f_X8_doStrings, e1, g2, q_let, ↓reduceIte]
    have hss : s_X8_doStrings (a1, a2, a3, a4, e, w, s, l, 0, 0, R) (uB B) K one two 220 (nI im) (nI a) (nI q) := by
      simp (decide := true) only [s_X8_doStrings, e1, g2, gs, and_self, true_and, and_true, q_let, ↓reduceIte]
    exact ⟨_, _, _, _, _, _, _, _, _, _, _, hc, hm, Res_bad c1 hw hK (G' := G), hss⟩
theorem ss_213 : SSok 213 := by
  intro x1 x2 x3 x4 rn sn a q F Fd Z Zd G B K one two a1 a2 a3 a4 e w s l R hr hs ha hq hw hK
  obtain ⟨im, him⟩ : ∃ im, im = rn * 16 + sn := ⟨_, rfl⟩
  have him2 : im < 256 := by omega
  have e1 : nI im + (1 : Int32) = nI (im + 1) := nI_1 im
  have hfu : ((nI (im + 1)).toInt - (0 : Int32).toInt).toNat + 1 = im + 1 + 1 := fuel_n (by omega)
  rw [← him]
  obtain ⟨gd, gs⟩ := goodR K a (im + 1) 1 0 (nI (im + 1)) 1 rfl (by decide) ha (by omega) (by omega) (by decide) (by omega) a1 a2 a3 a4 e w s l 0 R
  obtain ⟨hd, ht⟩ := goodR K q (im + 1) 1 0 (nI (im + 1)) 1 rfl (by decide) hq (by omega) (by omega) (by decide) (by omega) a1 a2 a3 a4 e w s l 0 R
  rcases gd with ⟨g1, g2, g3, g4⟩ | ⟨c, c0, c1, g1, g2⟩
  · rcases hd with ⟨k1, k2, k3, k4⟩ | ⟨c, c0, c1, k1, k2⟩
    · obtain ⟨cc', i1, i2, i4, i3⟩ := clc_loop x1 x2 x3 x4 213 (nI rn) (nI sn) im a q him2 g4 k4 one two B a1 a2 a4 e w s l 0 0 R (im + 1) 0 (im + 1 + 1) 0 ⟨by decide, by decide⟩ (by omega) (by omega)
      rw [nI_0] at i1 i2 i3
      have hc : f_X3_doSs (x1, x2, x3, x4, 213, nI im, nI rn, nI sn, nI a, nI q) F Fd Z Zd (a1, a2, a3, a4) B K = (0, F, Fd, Z, Zd, (a1, a2, cc', a4), B) := by
        simp (decide := true) only [f_X3_doSs, f_X3_compareBytes, f_X3_faultOfPair, e1, hfu, g1, k1, i1, q_let, ↓reduceIte]
      have hm : f_X8_doStrings (a1, a2, a3, a4, e, w, s, l, 0, 0, R) (uB B) K one two 213 (nI im) (nI a) (nI q) = ((a1, a2, cc', a4, e, w, s, l, 0, 0, R), uB (B), one, two) := by
        simp (decide := true) only [f_X8_doStrings, e1, hfu, g2, k2, i2, q_let, ↓reduceIte]
      have hss : s_X8_doStrings (a1, a2, a3, a4, e, w, s, l, 0, 0, R) (uB B) K one two 213 (nI im) (nI a) (nI q) := by
        simp (decide := true) only [s_X8_doStrings, e1, hfu, g2, gs, k2, ht, i3, and_self, true_and, and_true, q_let, ↓reduceIte]
      exact ⟨_, _, _, _, _, _, _, _, _, _, _, hc, hm, Res_ok (Wf_cc hw i4) hK (G' := G), hss⟩
    · have hc : f_X3_doSs (x1, x2, x3, x4, 213, nI im, nI rn, nI sn, nI a, nI q) F Fd Z Zd (a1, a2, a3, a4) B K = (c, F, Fd, Z, Zd, (a1, a2, a3, a4), B) := by
        simp (decide := true) only [f_X3_doSs, f_X3_compareBytes, e1, f_X3_faultOfPair, g1, k1, if_neg c0, q_let, ↓reduceIte]
      have hm : f_X8_doStrings (a1, a2, a3, a4, e, w, s, l, 0, 0, R) (uB B) K one two 213 (nI im) (nI a) (nI q) = ((a1, a2, a3, a4, e, w, s, l, c, 0, R), uB (B), one, two) := by
        simp (decide := true) only [f_X8_doStrings, e1, g2, k2, q_let, ↓reduceIte]
      have hss : s_X8_doStrings (a1, a2, a3, a4, e, w, s, l, 0, 0, R) (uB B) K one two 213 (nI im) (nI a) (nI q) := by
        simp (decide := true) only [s_X8_doStrings, e1, g2, gs, k2, ht, and_self, true_and, and_true, q_let, ↓reduceIte]
      exact ⟨_, _, _, _, _, _, _, _, _, _, _, hc, hm, Res_bad c1 hw hK (G' := G), hss⟩
  · have hc : f_X3_doSs (x1, x2, x3, x4, 213, nI im, nI rn, nI sn, nI a, nI q) F Fd Z Zd (a1, a2, a3, a4) B K = (c, F, Fd, Z, Zd, (a1, a2, a3, a4), B) := by
      simp (decide := true) only [f_X3_doSs, f_X3_compareBytes, e1, f_X3_faultOfPair, g1, if_neg c0, q_let, ↓reduceIte]
    have hm : f_X8_doStrings (a1, a2, a3, a4, e, w, s, l, 0, 0, R) (uB B) K one two 213 (nI im) (nI a) (nI q) = ((a1, a2, a3, a4, e, w, s, l, c, 0, R), uB (B), one, two) := by
      simp (decide := true) only [f_X8_doStrings, e1, g2, q_let, ↓reduceIte]
    have hss : s_X8_doStrings (a1, a2, a3, a4, e, w, s, l, 0, 0, R) (uB B) K one two 213 (nI im) (nI a) (nI q) := by
      simp (decide := true) only [s_X8_doStrings, e1, g2, gs, and_self, true_and, and_true, q_let, ↓reduceIte]
    exact ⟨_, _, _, _, _, _, _, _, _, _, _, hc, hm, Res_bad c1 hw hK (G' := G), hss⟩
theorem ss_249 : SSok 249 := by
  intro x1 x2 x3 x4 rn sn a q F Fd Z Zd G B K one two a1 a2 a3 a4 e w s l R hr hs ha hq hw hK
  obtain ⟨im, him⟩ : ∃ im, im = rn * 16 + sn := ⟨_, rfl⟩
  have him2 : im < 256 := by omega
  have e1 : nI im + (1 : Int32) = nI (im + 1) := nI_1 im
  have hfu : ((nI (im + 1)).toInt - (0 : Int32).toInt).toNat + 1 = im + 1 + 1 := fuel_n (by omega)
  rw [← him]
  have p16 : nI im / (16 : Int32) = nI rn := (pk_div (d := 16) (by omega) (by omega) (by omega)).trans (by congr 1; omega)
  have q16 : nI im - nI rn * (16 : Int32) = nI sn := by rw [show nI rn * (16 : Int32) = nI (rn * 16) from pk_mul rn 16, pk_sub (by omega)]; congr 1; omega
  have r1 : nI rn + (1 : Int32) = nI (rn + 1) := nI_1 rn
  have s1 : nI sn + (1 : Int32) = nI (sn + 1) := nI_1 sn
  have h70 : ¬ (7 : Int32) ≤ 0 := by decide
  have w7 : ∀ (c : Bool), f_X8_wrong (a1, a2, a3, a4, e, w, s, l, 7, 0, R) c 7 = (a1, a2, a3, a4, e, w, s, l, 7, 0, R) := fun c => wr_n a1 a2 a3 a4 e w s l 7 0 R c 7 (by decide)
  have nft : ¬ false = true := by decide
  obtain ⟨gd, gs⟩ := goodR K a (rn + 1) 1 0 (nI (rn + 1)) 1 rfl (by decide) ha (by omega) (by omega) (by decide) (by omega) a1 a2 a3 a4 e w s l 0 R
  obtain ⟨hd, ht⟩ := goodR K q (sn + 1) 1 0 (nI (sn + 1)) 1 rfl (by decide) hq (by omega) (by omega) (by decide) (by omega) a1 a2 a3 a4 e w s l 0 R
  rcases gd with ⟨g1, g2, g3, g4⟩ | ⟨c, c0, c1, g1, g2⟩
  · rcases hd with ⟨k1, k2, k3, k4⟩ | ⟨c, c0, c1, k1, k2⟩
    · obtain ⟨ok2, n2, E', two', t1, t2, t3, t4⟩ := rdB Z Zd B q (sn + 1) (by omega) (by omega) k4 two
      obtain ⟨ok1, n1, D', one', u1, u2, u3, u4⟩ := rdA F Fd B a (rn + 1) (by omega) (by omega) g4 one
      cases ok1 with
      | false =>
        cases ok2 with
        | false =>
          obtain ⟨hdec, hsd0⟩ := dec_bf (uB B) K one two 249 (nI a) (nI (rn + 1)) (nI q) (nI (sn + 1)) false (by decide) a1 a2 a3 a4 e w s l R (by decide) g2 k2 two' t2 one' u2
          have hsd := hsd0 ⟨gs, ht, t3, u3⟩
          have hc : f_X3_doSs (x1, x2, x3, x4, 249, nI im, nI rn, nI sn, nI a, nI q) F Fd Z Zd (a1, a2, a3, a4) B K = (7, n1, D', Z, Zd, (a1, a2, a3, a4), B) := by
            simp (decide := true) only [f_X3_doSs, f_X3_comparePacked, f_X3_faultOfPair, r1, s1, g1, k1, u1, q_let, ↓reduceIte]
          have hm : f_X8_doStrings (a1, a2, a3, a4, e, w, s, l, 0, 0, R) (uB B) K one two 249 (nI im) (nI a) (nI q) = ((a1, a2, a3, a4, e, w, s, l, 7, 0, R), uB (B), one', two') := by
            simp (decide := true) only [f_X8_doStrings, p16, q16, r1, s1, hdec, q_let, ↓reduceIte]
          have hss : s_X8_doStrings (a1, a2, a3, a4, e, w, s, l, 0, 0, R) (uB B) K one two 249 (nI im) (nI a) (nI q) := by
            simp (decide := true) only [s_X8_doStrings, p16, q16, r1, s1, hsd, and_self, true_and, and_true, q_let, ↓reduceIte]
          exact ⟨_, _, _, _, _, _, _, _, _, _, _, hc, hm, Res_bad (by decide) hw hK (G' := G), hss⟩
        | true =>
          obtain ⟨hdec, hsd0⟩ := dec_a (uB B) K one two 249 (nI a) (nI (rn + 1)) (nI q) (nI (sn + 1)) false (by decide) a1 a2 a3 a4 e w s l R (by decide) g2 k2 two' t2 one' u2
          have hsd := hsd0 ⟨gs, ht, t3, u3⟩
          have hc : f_X3_doSs (x1, x2, x3, x4, 249, nI im, nI rn, nI sn, nI a, nI q) F Fd Z Zd (a1, a2, a3, a4) B K = (7, n1, D', Z, Zd, (a1, a2, a3, a4), B) := by
            simp (decide := true) only [f_X3_doSs, f_X3_comparePacked, f_X3_faultOfPair, r1, s1, g1, k1, u1, q_let, ↓reduceIte]
          have hm : f_X8_doStrings (a1, a2, a3, a4, e, w, s, l, 0, 0, R) (uB B) K one two 249 (nI im) (nI a) (nI q) = ((a1, a2, a3, a4, e, w, s, l, 7, 0, R), uB (B), one', two') := by
            simp (decide := true) only [f_X8_doStrings, p16, q16, r1, s1, hdec, q_let, ↓reduceIte]
          have hss : s_X8_doStrings (a1, a2, a3, a4, e, w, s, l, 0, 0, R) (uB B) K one two 249 (nI im) (nI a) (nI q) := by
            simp (decide := true) only [s_X8_doStrings, p16, q16, r1, s1, hsd, and_self, true_and, and_true, q_let, ↓reduceIte]
          exact ⟨_, _, _, _, _, _, _, _, _, _, _, hc, hm, Res_bad (by decide) hw hK (G' := G), hss⟩
      | true =>
        cases ok2 with
        | false =>
          obtain ⟨hdec, hsd0⟩ := dec_bt (uB B) K one two 249 (nI a) (nI (rn + 1)) (nI q) (nI (sn + 1)) false (by decide) a1 a2 a3 a4 e w s l R (by decide) g2 k2 two' t2 one' u2
          have hsd := hsd0 ⟨gs, ht, t3, u3⟩
          have hc : f_X3_doSs (x1, x2, x3, x4, 249, nI im, nI rn, nI sn, nI a, nI q) F Fd Z Zd (a1, a2, a3, a4) B K = (7, n1, D', n2, E', (a1, a2, a3, a4), B) := by
            simp (decide := true) only [f_X3_doSs, f_X3_comparePacked, f_X3_faultOfPair, r1, s1, g1, k1, u1, t1, q_let, ↓reduceIte]
          have hm : f_X8_doStrings (a1, a2, a3, a4, e, w, s, l, 0, 0, R) (uB B) K one two 249 (nI im) (nI a) (nI q) = ((a1, a2, a3, a4, e, w, s, l, 7, 0, R), uB (B), one', two') := by
            simp (decide := true) only [f_X8_doStrings, p16, q16, r1, s1, hdec, q_let, ↓reduceIte]
          have hss : s_X8_doStrings (a1, a2, a3, a4, e, w, s, l, 0, 0, R) (uB B) K one two 249 (nI im) (nI a) (nI q) := by
            simp (decide := true) only [s_X8_doStrings, p16, q16, r1, s1, hsd, and_self, true_and, and_true, q_let, ↓reduceIte]
          exact ⟨_, _, _, _, _, _, _, _, _, _, _, hc, hm, Res_bad (by decide) hw hK (G' := G), hss⟩
        | true =>
          obtain ⟨d, d1, d2, d3, d4, d5, d6⟩ := u4 rfl
          obtain ⟨f, f1, f2, f3, f4, f5, f6⟩ := t4 rfl
          obtain ⟨one2, m1, m2, m3⟩ := cmpP B one' two' D' E' d f d1 f1 d4 f4 d2 f2 n1 n2 d6 f6 d5 f5 (nI a) (nI (rn + 1)) a1 a2 a3 a4 e w s l R
          obtain ⟨hdec, hsd0⟩ := dec_go (uB B) K one two 249 (nI a) (nI (rn + 1)) (nI q) (nI (sn + 1)) false (by decide) a1 a2 a3 a4 e w s l R (by decide) g2 k2 two' t2 one' u2
          have hsd := hsd0 ⟨gs, ht, t3, u3, m3⟩
          have hc : f_X3_doSs (x1, x2, x3, x4, 249, nI im, nI rn, nI sn, nI a, nI q) F Fd Z Zd (a1, a2, a3, a4) B K = (0, n1, D', n2, E', (a1, a2, f_X1_orderWith n1 D' n2 E', a4), B) := by
            simp (decide := true) only [f_X3_doSs, f_X3_comparePacked, f_X3_faultOfPair, r1, s1, g1, k1, u1, t1, q_let, ↓reduceIte]
          have hm : f_X8_doStrings (a1, a2, a3, a4, e, w, s, l, 0, 0, R) (uB B) K one two 249 (nI im) (nI a) (nI q) = ((a1, a2, f_X1_orderWith n1 D' n2 E', a4, e, w, s, l, 0, 0, R), uB (B), one2, two') := by
            simp (decide := true) only [f_X8_doStrings, p16, q16, r1, s1, hdec.trans m1, q_let, ↓reduceIte]
          have hss : s_X8_doStrings (a1, a2, a3, a4, e, w, s, l, 0, 0, R) (uB B) K one two 249 (nI im) (nI a) (nI q) := by
            simp (decide := true) only [s_X8_doStrings, p16, q16, r1, s1, hsd, and_self, true_and, and_true, q_let, ↓reduceIte]
          exact ⟨_, _, _, _, _, _, _, _, _, _, _, hc, hm, Res_ok (Wf_cc hw m2) hK (G' := G), hss⟩
    · obtain ⟨hdec, hsd0⟩ := dec_f2 (uB B) K one two 249 (nI a) (nI (rn + 1)) (nI q) (nI (sn + 1)) false (by decide) a1 a2 a3 a4 e w s l R c g2 k2
      have hsd := hsd0 ⟨gs, ht⟩
      have hc : f_X3_doSs (x1, x2, x3, x4, 249, nI im, nI rn, nI sn, nI a, nI q) F Fd Z Zd (a1, a2, a3, a4) B K = (c, F, Fd, Z, Zd, (a1, a2, a3, a4), B) := by
        simp (decide := true) only [f_X3_doSs, f_X3_comparePacked, r1, s1, f_X3_faultOfPair, g1, k1, if_neg c0, q_let, ↓reduceIte]
      have hm : f_X8_doStrings (a1, a2, a3, a4, e, w, s, l, 0, 0, R) (uB B) K one two 249 (nI im) (nI a) (nI q) = ((a1, a2, a3, a4, e, w, s, l, c, 0, R), uB (B), one, two) := by
        simp (decide := true) only [f_X8_doStrings, p16, q16, r1, s1, hdec, q_let, ↓reduceIte]
      have hss : s_X8_doStrings (a1, a2, a3, a4, e, w, s, l, 0, 0, R) (uB B) K one two 249 (nI im) (nI a) (nI q) := by
        simp (decide := true) only [s_X8_doStrings, p16, q16, r1, s1, hsd, and_self, true_and, and_true, q_let, ↓reduceIte]
      exact ⟨_, _, _, _, _, _, _, _, _, _, _, hc, hm, Res_bad c1 hw hK (G' := G), hss⟩
  · obtain ⟨hdec, hsd0⟩ := dec_f1 (uB B) K one two 249 (nI a) (nI (rn + 1)) (nI q) (nI (sn + 1)) false (by decide) a1 a2 a3 a4 e w s l R c g2
    have hsd := hsd0 gs
    have hc : f_X3_doSs (x1, x2, x3, x4, 249, nI im, nI rn, nI sn, nI a, nI q) F Fd Z Zd (a1, a2, a3, a4) B K = (c, F, Fd, Z, Zd, (a1, a2, a3, a4), B) := by
      simp (decide := true) only [f_X3_doSs, f_X3_comparePacked, r1, s1, f_X3_faultOfPair, g1, if_neg c0, q_let, ↓reduceIte]
    have hm : f_X8_doStrings (a1, a2, a3, a4, e, w, s, l, 0, 0, R) (uB B) K one two 249 (nI im) (nI a) (nI q) = ((a1, a2, a3, a4, e, w, s, l, c, 0, R), uB (B), one, two) := by
      simp (decide := true) only [f_X8_doStrings, p16, q16, r1, s1, hdec, q_let, ↓reduceIte]
    have hss : s_X8_doStrings (a1, a2, a3, a4, e, w, s, l, 0, 0, R) (uB B) K one two 249 (nI im) (nI a) (nI q) := by
      simp (decide := true) only [s_X8_doStrings, p16, q16, r1, s1, hsd, and_self, true_and, and_true, q_let, ↓reduceIte]
    exact ⟨_, _, _, _, _, _, _, _, _, _, _, hc, hm, Res_bad c1 hw hK (G' := G), hss⟩
theorem cal_f (x1 : Bool) (x2 x3 x4 op imm rx sx : Int32) (a q : Nat) (F : Bool) (Fd : rw_) (Z : Bool) (Zd B K : rw_) (T : tT) (c : Int32) (hc : ¬ c = 0) (hf : f_X3_faultOfPair (x1, x2, x3, x4, op, imm, rx, sx, nI a, nI q) (f_X3_storeFault T K (nI a) (rx + (1 : Int32)) 1) (sx + (1 : Int32)) = c) :
    f_X3_calculatePacked (x1, x2, x3, x4, op, imm, rx, sx, nI a, nI q) F Fd Z Zd T B K = (c, F, Fd, Z, Zd, T, B) := by
  unfold f_X3_calculatePacked
  dsimp only
  rw [hf, if_neg hc]
theorem cal_b (x1 : Bool) (x2 x3 x4 op imm rx sx : Int32) (a q : Nat) (F : Bool) (Fd : rw_) (Z : Bool) (Zd B K : rw_) (T : tT) (n2 : Bool) (E' : rw_) (hf : f_X3_faultOfPair (x1, x2, x3, x4, op, imm, rx, sx, nI a, nI q) (f_X3_storeFault T K (nI a) (rx + (1 : Int32)) 1) (sx + (1 : Int32)) = 0) (t1 : f_X1_takeFrom Z Zd B (nI q) (sx + (1 : Int32)) = (false, n2, E')) :
    f_X3_calculatePacked (x1, x2, x3, x4, op, imm, rx, sx, nI a, nI q) F Fd Z Zd T B K = (7, F, Fd, n2, E', T, B) := by
  unfold f_X3_calculatePacked
  dsimp only
  rw [hf, if_pos rfl, t1]
  unfold q_let
  dsimp only
  rw [if_neg (by decide)]
theorem fop0 (x1 : Bool) (x2 x3 x4 op imm rx sx : Int32) (a q : Nat) (n : Int32) : f_X3_faultOfPair (x1, x2, x3, x4, op, imm, rx, sx, nI a, nI q) 0 n = f_X3_readFault (nI q) n 1 := by
  unfold f_X3_faultOfPair
  rw [if_pos rfl]
theorem fopc (x1 : Bool) (x2 x3 x4 op imm rx sx : Int32) (a q : Nat) (c n : Int32) (h : ¬ c = 0) : f_X3_faultOfPair (x1, x2, x3, x4, op, imm, rx, sx, nI a, nI q) c n = c := by
  unfold f_X3_faultOfPair
  rw [if_neg h]
theorem ss_250 : SSok 250 := by
  intro x1 x2 x3 x4 rn sn a q F Fd Z Zd G B K one two a1 a2 a3 a4 e w s l R hr hs ha hq hw hK
  obtain ⟨im, him⟩ : ∃ im, im = rn * 16 + sn := ⟨_, rfl⟩
  have him2 : im < 256 := by omega
  have e1 : nI im + (1 : Int32) = nI (im + 1) := nI_1 im
  have hfu : ((nI (im + 1)).toInt - (0 : Int32).toInt).toNat + 1 = im + 1 + 1 := fuel_n (by omega)
  rw [← him]
  have p16 : nI im / (16 : Int32) = nI rn := (pk_div (d := 16) (by omega) (by omega) (by omega)).trans (by congr 1; omega)
  have q16 : nI im - nI rn * (16 : Int32) = nI sn := by rw [show nI rn * (16 : Int32) = nI (rn * 16) from pk_mul rn 16, pk_sub (by omega)]; congr 1; omega
  have r1 : nI rn + (1 : Int32) = nI (rn + 1) := nI_1 rn
  have s1 : nI sn + (1 : Int32) = nI (sn + 1) := nI_1 sn
  have h70 : ¬ (7 : Int32) ≤ 0 := by decide
  have w7 : ∀ (c : Bool), f_X8_wrong (a1, a2, a3, a4, e, w, s, l, 7, 0, R) c 7 = (a1, a2, a3, a4, e, w, s, l, 7, 0, R) := fun c => wr_n a1 a2 a3 a4 e w s l 7 0 R c 7 (by decide)
  have nft : ¬ false = true := by decide
  obtain ⟨gd, gs⟩ := goodS K a (rn + 1) 1 0 (nI (rn + 1)) 1 rfl (by decide) ha (by omega) (by omega) (by decide) (by omega) a1 a2 a3 a4 e w s l 0 R
  obtain ⟨hd, ht⟩ := goodR K q (sn + 1) 1 0 (nI (sn + 1)) 1 rfl (by decide) hq (by omega) (by omega) (by decide) (by omega) a1 a2 a3 a4 e w s l 0 R
  rcases gd with ⟨g1, g2, g3, g4⟩ | ⟨c, c0, c1, g1, g2⟩
  · rcases hd with ⟨k1, k2, k3, k4⟩ | ⟨c, c0, c1, k1, k2⟩
    · obtain ⟨ok2, n2, E', two', t1, t2, t3, t4⟩ := rdB Z Zd B q (sn + 1) (by omega) (by omega) k4 two
      obtain ⟨ok1, n1, D', one', u1, u2, u3, u4⟩ := rdA F Fd B a (rn + 1) (by omega) (by omega) g4 one
      cases ok2 with
      | false =>
        cases ok1 with
        | false =>
          obtain ⟨hdec, hsd0⟩ := dec_bf (uB B) K one two 250 (nI a) (nI (rn + 1)) (nI q) (nI (sn + 1)) true (by decide) a1 a2 a3 a4 e w s l R (by decide) g2 k2 two' t2 one' u2
          have hsd := hsd0 ⟨gs, ht, t3, u3⟩
          have hc : f_X3_doSs (x1, x2, x3, x4, 250, nI im, nI rn, nI sn, nI a, nI q) F Fd Z Zd (a1, a2, a3, a4) B K = (7, F, Fd, n2, E', (a1, a2, a3, a4), B) := by
            simp (decide := true) only [f_X3_doSs, f_X3_calculatePacked, f_X3_faultOfPair, r1, s1, g1, k1, t1, q_let, ↓reduceIte]
          have hm : f_X8_doStrings (a1, a2, a3, a4, e, w, s, l, 0, 0, R) (uB B) K one two 250 (nI im) (nI a) (nI q) = ((a1, a2, a3, a4, e, w, s, l, 7, 0, R), uB (B), one', two') := by
            simp (decide := true) only [f_X8_doStrings, p16, q16, r1, s1, hdec, q_let, ↓reduceIte]
          have hss : s_X8_doStrings (a1, a2, a3, a4, e, w, s, l, 0, 0, R) (uB B) K one two 250 (nI im) (nI a) (nI q) := by
            simp (decide := true) only [s_X8_doStrings, p16, q16, r1, s1, hsd, and_self, true_and, and_true, q_let, ↓reduceIte]
          exact ⟨_, _, _, _, _, _, _, _, _, _, _, hc, hm, Res_bad (by decide) hw hK (G' := G), hss⟩
        | true =>
          obtain ⟨hdec, hsd0⟩ := dec_bt (uB B) K one two 250 (nI a) (nI (rn + 1)) (nI q) (nI (sn + 1)) true (by decide) a1 a2 a3 a4 e w s l R (by decide) g2 k2 two' t2 one' u2
          have hsd := hsd0 ⟨gs, ht, t3, u3⟩
          have hc : f_X3_doSs (x1, x2, x3, x4, 250, nI im, nI rn, nI sn, nI a, nI q) F Fd Z Zd (a1, a2, a3, a4) B K = (7, F, Fd, n2, E', (a1, a2, a3, a4), B) := by
            simp (decide := true) only [f_X3_doSs, f_X3_calculatePacked, f_X3_faultOfPair, r1, s1, g1, k1, t1, q_let, ↓reduceIte]
          have hm : f_X8_doStrings (a1, a2, a3, a4, e, w, s, l, 0, 0, R) (uB B) K one two 250 (nI im) (nI a) (nI q) = ((a1, a2, a3, a4, e, w, s, l, 7, 0, R), uB (B), one', two') := by
            simp (decide := true) only [f_X8_doStrings, p16, q16, r1, s1, hdec, q_let, ↓reduceIte]
          have hss : s_X8_doStrings (a1, a2, a3, a4, e, w, s, l, 0, 0, R) (uB B) K one two 250 (nI im) (nI a) (nI q) := by
            simp (decide := true) only [s_X8_doStrings, p16, q16, r1, s1, hsd, and_self, true_and, and_true, q_let, ↓reduceIte]
          exact ⟨_, _, _, _, _, _, _, _, _, _, _, hc, hm, Res_bad (by decide) hw hK (G' := G), hss⟩
      | true =>
        cases ok1 with
        | false =>
          obtain ⟨hdec, hsd0⟩ := dec_a (uB B) K one two 250 (nI a) (nI (rn + 1)) (nI q) (nI (sn + 1)) true (by decide) a1 a2 a3 a4 e w s l R (by decide) g2 k2 two' t2 one' u2
          have hsd := hsd0 ⟨gs, ht, t3, u3⟩
          have hc : f_X3_doSs (x1, x2, x3, x4, 250, nI im, nI rn, nI sn, nI a, nI q) F Fd Z Zd (a1, a2, a3, a4) B K = (7, n1, D', n2, E', (a1, a2, a3, a4), B) := by
            simp (decide := true) only [f_X3_doSs, f_X3_calculatePacked, f_X3_faultOfPair, r1, s1, g1, k1, t1, u1, q_let, ↓reduceIte]
          have hm : f_X8_doStrings (a1, a2, a3, a4, e, w, s, l, 0, 0, R) (uB B) K one two 250 (nI im) (nI a) (nI q) = ((a1, a2, a3, a4, e, w, s, l, 7, 0, R), uB (B), one', two') := by
            simp (decide := true) only [f_X8_doStrings, p16, q16, r1, s1, hdec, q_let, ↓reduceIte]
          have hss : s_X8_doStrings (a1, a2, a3, a4, e, w, s, l, 0, 0, R) (uB B) K one two 250 (nI im) (nI a) (nI q) := by
            simp (decide := true) only [s_X8_doStrings, p16, q16, r1, s1, hsd, and_self, true_and, and_true, q_let, ↓reduceIte]
          exact ⟨_, _, _, _, _, _, _, _, _, _, _, hc, hm, Res_bad (by decide) hw hK (G' := G), hss⟩
        | true =>
          obtain ⟨d, d1, d2, d3, d4, d5, d6⟩ := u4 rfl
          obtain ⟨f, f1, f2, f3, f4, f5, f6⟩ := t4 rfl
          obtain ⟨X, hX⟩ : ∃ X : Nat → Int, X = fun k => sg n1 * d k + sg (n2) * f k := ⟨_, rfl⟩
          obtain ⟨r, ng, D2, v1, v2, v3, v4, v5, v6⟩ := addS D' E' d f d1 f1 d4 f4 d2 f2 n1 (n2) X hX
          have hXX : ∀ k, X k = if (250 : Int32) = 249 ∨ (250 : Int32) = 251 then sg n1 * d k - sg n2 * f k else sg n1 * d k + sg n2 * f k := by
            intro k
            rw [hX]
            rw [if_neg (by decide)]
          have hadd : f_X1_add n1 D' n2 E' = (ng, D2) := by
            unfold f_X1_add
            rw [v1]; rfl
          obtain ⟨c, b3, B', one2, y1, y2, y3, y4⟩ := calcA x1 x2 x3 x4 250 (nI im) rn (nI sn) a (nI q) (by decide) hr g4 B one' two' D2 (fun k => sg n1 * d k) (fun k => sg n2 * f k) X r ng hXX d5 f5 v2 v3 v4 v5 v6 a1 a2 a3 a4 e w s l R hw.1
          obtain ⟨hdec, hsd0⟩ := dec_go (uB B) K one two 250 (nI a) (nI (rn + 1)) (nI q) (nI (sn + 1)) true (by decide) a1 a2 a3 a4 e w s l R (by decide) g2 k2 two' t2 one' u2
          have hsd := hsd0 ⟨gs, ht, t3, u3, y4⟩
          have hc : f_X3_doSs (x1, x2, x3, x4, 250, nI im, nI rn, nI sn, nI a, nI q) F Fd Z Zd (a1, a2, a3, a4) B K = (c, ng, D2, n2, E', (a1, a2, b3, a4), B') := by
            simp (decide := true) only [f_X3_doSs, f_X3_calculatePacked, f_X3_faultOfPair, r1, s1, g1, k1, t1, u1, hadd, y1, q_let, ↓reduceIte]
          have hm : f_X8_doStrings (a1, a2, a3, a4, e, w, s, l, 0, 0, R) (uB B) K one two 250 (nI im) (nI a) (nI q) = ((a1, a2, b3, a4, e, w, s, l, 0, c, R), uB (B'), one2, two') := by
            simp (decide := true) only [f_X8_doStrings, p16, q16, r1, s1, hdec.trans y2, q_let, ↓reduceIte]
          have hss : s_X8_doStrings (a1, a2, a3, a4, e, w, s, l, 0, 0, R) (uB B) K one two 250 (nI im) (nI a) (nI q) := by
            simp (decide := true) only [s_X8_doStrings, p16, q16, r1, s1, hsd, and_self, true_and, and_true, q_let, ↓reduceIte]
          exact ⟨_, _, _, _, _, _, _, _, _, _, _, hc, hm, Res_ok (Wf_cc hw y3) hK (G' := G), hss⟩
    · obtain ⟨hdec, hsd0⟩ := dec_f2 (uB B) K one two 250 (nI a) (nI (rn + 1)) (nI q) (nI (sn + 1)) true (by decide) a1 a2 a3 a4 e w s l R c g2 k2
      have hsd := hsd0 ⟨gs, ht⟩
      have hc : f_X3_doSs (x1, x2, x3, x4, 250, nI im, nI rn, nI sn, nI a, nI q) F Fd Z Zd (a1, a2, a3, a4) B K = (c, F, Fd, Z, Zd, (a1, a2, a3, a4), B) := by
        simp (decide := true) only [f_X3_doSs, f_X3_calculatePacked, r1, s1, f_X3_faultOfPair, g1, k1, if_neg c0, q_let, ↓reduceIte]
      have hm : f_X8_doStrings (a1, a2, a3, a4, e, w, s, l, 0, 0, R) (uB B) K one two 250 (nI im) (nI a) (nI q) = ((a1, a2, a3, a4, e, w, s, l, c, 0, R), uB (B), one, two) := by
        simp (decide := true) only [f_X8_doStrings, p16, q16, r1, s1, hdec, q_let, ↓reduceIte]
      have hss : s_X8_doStrings (a1, a2, a3, a4, e, w, s, l, 0, 0, R) (uB B) K one two 250 (nI im) (nI a) (nI q) := by
        simp (decide := true) only [s_X8_doStrings, p16, q16, r1, s1, hsd, and_self, true_and, and_true, q_let, ↓reduceIte]
      exact ⟨_, _, _, _, _, _, _, _, _, _, _, hc, hm, Res_bad c1 hw hK (G' := G), hss⟩
  · obtain ⟨hdec, hsd0⟩ := dec_f1 (uB B) K one two 250 (nI a) (nI (rn + 1)) (nI q) (nI (sn + 1)) true (by decide) a1 a2 a3 a4 e w s l R c g2
    have hsd := hsd0 gs
    have hc : f_X3_doSs (x1, x2, x3, x4, 250, nI im, nI rn, nI sn, nI a, nI q) F Fd Z Zd (a1, a2, a3, a4) B K = (c, F, Fd, Z, Zd, (a1, a2, a3, a4), B) := by
      simp (decide := true) only [f_X3_doSs, f_X3_calculatePacked, r1, s1, f_X3_faultOfPair, g1, if_neg c0, q_let, ↓reduceIte]
    have hm : f_X8_doStrings (a1, a2, a3, a4, e, w, s, l, 0, 0, R) (uB B) K one two 250 (nI im) (nI a) (nI q) = ((a1, a2, a3, a4, e, w, s, l, c, 0, R), uB (B), one, two) := by
      simp (decide := true) only [f_X8_doStrings, p16, q16, r1, s1, hdec, q_let, ↓reduceIte]
    have hss : s_X8_doStrings (a1, a2, a3, a4, e, w, s, l, 0, 0, R) (uB B) K one two 250 (nI im) (nI a) (nI q) := by
      simp (decide := true) only [s_X8_doStrings, p16, q16, r1, s1, hsd, and_self, true_and, and_true, q_let, ↓reduceIte]
    exact ⟨_, _, _, _, _, _, _, _, _, _, _, hc, hm, Res_bad c1 hw hK (G' := G), hss⟩
theorem ss_251 : SSok 251 := by
  intro x1 x2 x3 x4 rn sn a q F Fd Z Zd G B K one two a1 a2 a3 a4 e w s l R hr hs ha hq hw hK
  obtain ⟨im, him⟩ : ∃ im, im = rn * 16 + sn := ⟨_, rfl⟩
  have him2 : im < 256 := by omega
  have e1 : nI im + (1 : Int32) = nI (im + 1) := nI_1 im
  have hfu : ((nI (im + 1)).toInt - (0 : Int32).toInt).toNat + 1 = im + 1 + 1 := fuel_n (by omega)
  rw [← him]
  have p16 : nI im / (16 : Int32) = nI rn := (pk_div (d := 16) (by omega) (by omega) (by omega)).trans (by congr 1; omega)
  have q16 : nI im - nI rn * (16 : Int32) = nI sn := by rw [show nI rn * (16 : Int32) = nI (rn * 16) from pk_mul rn 16, pk_sub (by omega)]; congr 1; omega
  have r1 : nI rn + (1 : Int32) = nI (rn + 1) := nI_1 rn
  have s1 : nI sn + (1 : Int32) = nI (sn + 1) := nI_1 sn
  have h70 : ¬ (7 : Int32) ≤ 0 := by decide
  have w7 : ∀ (c : Bool), f_X8_wrong (a1, a2, a3, a4, e, w, s, l, 7, 0, R) c 7 = (a1, a2, a3, a4, e, w, s, l, 7, 0, R) := fun c => wr_n a1 a2 a3 a4 e w s l 7 0 R c 7 (by decide)
  have nft : ¬ false = true := by decide
  obtain ⟨gd, gs⟩ := goodS K a (rn + 1) 1 0 (nI (rn + 1)) 1 rfl (by decide) ha (by omega) (by omega) (by decide) (by omega) a1 a2 a3 a4 e w s l 0 R
  obtain ⟨hd, ht⟩ := goodR K q (sn + 1) 1 0 (nI (sn + 1)) 1 rfl (by decide) hq (by omega) (by omega) (by decide) (by omega) a1 a2 a3 a4 e w s l 0 R
  rcases gd with ⟨g1, g2, g3, g4⟩ | ⟨c, c0, c1, g1, g2⟩
  · rcases hd with ⟨k1, k2, k3, k4⟩ | ⟨c, c0, c1, k1, k2⟩
    · obtain ⟨ok2, n2, E', two', t1, t2, t3, t4⟩ := rdB Z Zd B q (sn + 1) (by omega) (by omega) k4 two
      obtain ⟨ok1, n1, D', one', u1, u2, u3, u4⟩ := rdA F Fd B a (rn + 1) (by omega) (by omega) g4 one
      cases ok2 with
      | false =>
        cases ok1 with
        | false =>
          obtain ⟨hdec, hsd0⟩ := dec_bf (uB B) K one two 251 (nI a) (nI (rn + 1)) (nI q) (nI (sn + 1)) true (by decide) a1 a2 a3 a4 e w s l R (by decide) g2 k2 two' t2 one' u2
          have hsd := hsd0 ⟨gs, ht, t3, u3⟩
          have hc : f_X3_doSs (x1, x2, x3, x4, 251, nI im, nI rn, nI sn, nI a, nI q) F Fd Z Zd (a1, a2, a3, a4) B K = (7, F, Fd, n2, E', (a1, a2, a3, a4), B) := by
            simp (decide := true) only [f_X3_doSs, f_X3_calculatePacked, f_X3_faultOfPair, r1, s1, g1, k1, t1, q_let, ↓reduceIte]
          have hm : f_X8_doStrings (a1, a2, a3, a4, e, w, s, l, 0, 0, R) (uB B) K one two 251 (nI im) (nI a) (nI q) = ((a1, a2, a3, a4, e, w, s, l, 7, 0, R), uB (B), one', two') := by
            simp (decide := true) only [f_X8_doStrings, p16, q16, r1, s1, hdec, q_let, ↓reduceIte]
          have hss : s_X8_doStrings (a1, a2, a3, a4, e, w, s, l, 0, 0, R) (uB B) K one two 251 (nI im) (nI a) (nI q) := by
            simp (decide := true) only [s_X8_doStrings, p16, q16, r1, s1, hsd, and_self, true_and, and_true, q_let, ↓reduceIte]
          exact ⟨_, _, _, _, _, _, _, _, _, _, _, hc, hm, Res_bad (by decide) hw hK (G' := G), hss⟩
        | true =>
          obtain ⟨hdec, hsd0⟩ := dec_bt (uB B) K one two 251 (nI a) (nI (rn + 1)) (nI q) (nI (sn + 1)) true (by decide) a1 a2 a3 a4 e w s l R (by decide) g2 k2 two' t2 one' u2
          have hsd := hsd0 ⟨gs, ht, t3, u3⟩
          have hc : f_X3_doSs (x1, x2, x3, x4, 251, nI im, nI rn, nI sn, nI a, nI q) F Fd Z Zd (a1, a2, a3, a4) B K = (7, F, Fd, n2, E', (a1, a2, a3, a4), B) := by
            simp (decide := true) only [f_X3_doSs, f_X3_calculatePacked, f_X3_faultOfPair, r1, s1, g1, k1, t1, q_let, ↓reduceIte]
          have hm : f_X8_doStrings (a1, a2, a3, a4, e, w, s, l, 0, 0, R) (uB B) K one two 251 (nI im) (nI a) (nI q) = ((a1, a2, a3, a4, e, w, s, l, 7, 0, R), uB (B), one', two') := by
            simp (decide := true) only [f_X8_doStrings, p16, q16, r1, s1, hdec, q_let, ↓reduceIte]
          have hss : s_X8_doStrings (a1, a2, a3, a4, e, w, s, l, 0, 0, R) (uB B) K one two 251 (nI im) (nI a) (nI q) := by
            simp (decide := true) only [s_X8_doStrings, p16, q16, r1, s1, hsd, and_self, true_and, and_true, q_let, ↓reduceIte]
          exact ⟨_, _, _, _, _, _, _, _, _, _, _, hc, hm, Res_bad (by decide) hw hK (G' := G), hss⟩
      | true =>
        cases ok1 with
        | false =>
          obtain ⟨hdec, hsd0⟩ := dec_a (uB B) K one two 251 (nI a) (nI (rn + 1)) (nI q) (nI (sn + 1)) true (by decide) a1 a2 a3 a4 e w s l R (by decide) g2 k2 two' t2 one' u2
          have hsd := hsd0 ⟨gs, ht, t3, u3⟩
          have hc : f_X3_doSs (x1, x2, x3, x4, 251, nI im, nI rn, nI sn, nI a, nI q) F Fd Z Zd (a1, a2, a3, a4) B K = (7, n1, D', n2, E', (a1, a2, a3, a4), B) := by
            simp (decide := true) only [f_X3_doSs, f_X3_calculatePacked, f_X3_faultOfPair, r1, s1, g1, k1, t1, u1, q_let, ↓reduceIte]
          have hm : f_X8_doStrings (a1, a2, a3, a4, e, w, s, l, 0, 0, R) (uB B) K one two 251 (nI im) (nI a) (nI q) = ((a1, a2, a3, a4, e, w, s, l, 7, 0, R), uB (B), one', two') := by
            simp (decide := true) only [f_X8_doStrings, p16, q16, r1, s1, hdec, q_let, ↓reduceIte]
          have hss : s_X8_doStrings (a1, a2, a3, a4, e, w, s, l, 0, 0, R) (uB B) K one two 251 (nI im) (nI a) (nI q) := by
            simp (decide := true) only [s_X8_doStrings, p16, q16, r1, s1, hsd, and_self, true_and, and_true, q_let, ↓reduceIte]
          exact ⟨_, _, _, _, _, _, _, _, _, _, _, hc, hm, Res_bad (by decide) hw hK (G' := G), hss⟩
        | true =>
          obtain ⟨d, d1, d2, d3, d4, d5, d6⟩ := u4 rfl
          obtain ⟨f, f1, f2, f3, f4, f5, f6⟩ := t4 rfl
          obtain ⟨X, hX⟩ : ∃ X : Nat → Int, X = fun k => sg n1 * d k + sg (!n2) * f k := ⟨_, rfl⟩
          obtain ⟨r, ng, D2, v1, v2, v3, v4, v5, v6⟩ := addS D' E' d f d1 f1 d4 f4 d2 f2 n1 (!n2) X hX
          have hXX : ∀ k, X k = if (251 : Int32) = 249 ∨ (251 : Int32) = 251 then sg n1 * d k - sg n2 * f k else sg n1 * d k + sg n2 * f k := by
            intro k
            rw [hX]
            rw [if_pos (Or.inr rfl)]
            cases n2
            · show sg n1 * d k + -1 * f k = sg n1 * d k - 1 * f k; omega
            · show sg n1 * d k + 1 * f k = sg n1 * d k - -1 * f k; omega
          have hadd : f_X1_subtract n1 D' n2 E' = (ng, D2) := by
            unfold f_X1_subtract
            cases n2
            · rw [if_neg (by decide), show f_X1_addSigned n1 D' E' true = (ng, D2) from v1]; rfl
            · rw [if_pos rfl, show f_X1_addSigned n1 D' E' false = (ng, D2) from v1]; rfl
          obtain ⟨c, b3, B', one2, y1, y2, y3, y4⟩ := calcA x1 x2 x3 x4 251 (nI im) rn (nI sn) a (nI q) (by decide) hr g4 B one' two' D2 (fun k => sg n1 * d k) (fun k => sg n2 * f k) X r ng hXX d5 f5 v2 v3 v4 v5 v6 a1 a2 a3 a4 e w s l R hw.1
          obtain ⟨hdec, hsd0⟩ := dec_go (uB B) K one two 251 (nI a) (nI (rn + 1)) (nI q) (nI (sn + 1)) true (by decide) a1 a2 a3 a4 e w s l R (by decide) g2 k2 two' t2 one' u2
          have hsd := hsd0 ⟨gs, ht, t3, u3, y4⟩
          have hc : f_X3_doSs (x1, x2, x3, x4, 251, nI im, nI rn, nI sn, nI a, nI q) F Fd Z Zd (a1, a2, a3, a4) B K = (c, ng, D2, n2, E', (a1, a2, b3, a4), B') := by
            simp (decide := true) only [f_X3_doSs, f_X3_calculatePacked, f_X3_faultOfPair, r1, s1, g1, k1, t1, u1, hadd, y1, q_let, ↓reduceIte]
          have hm : f_X8_doStrings (a1, a2, a3, a4, e, w, s, l, 0, 0, R) (uB B) K one two 251 (nI im) (nI a) (nI q) = ((a1, a2, b3, a4, e, w, s, l, 0, c, R), uB (B'), one2, two') := by
            simp (decide := true) only [f_X8_doStrings, p16, q16, r1, s1, hdec.trans y2, q_let, ↓reduceIte]
          have hss : s_X8_doStrings (a1, a2, a3, a4, e, w, s, l, 0, 0, R) (uB B) K one two 251 (nI im) (nI a) (nI q) := by
            simp (decide := true) only [s_X8_doStrings, p16, q16, r1, s1, hsd, and_self, true_and, and_true, q_let, ↓reduceIte]
          exact ⟨_, _, _, _, _, _, _, _, _, _, _, hc, hm, Res_ok (Wf_cc hw y3) hK (G' := G), hss⟩
    · obtain ⟨hdec, hsd0⟩ := dec_f2 (uB B) K one two 251 (nI a) (nI (rn + 1)) (nI q) (nI (sn + 1)) true (by decide) a1 a2 a3 a4 e w s l R c g2 k2
      have hsd := hsd0 ⟨gs, ht⟩
      have hc : f_X3_doSs (x1, x2, x3, x4, 251, nI im, nI rn, nI sn, nI a, nI q) F Fd Z Zd (a1, a2, a3, a4) B K = (c, F, Fd, Z, Zd, (a1, a2, a3, a4), B) := by
        simp (decide := true) only [f_X3_doSs, f_X3_calculatePacked, r1, s1, f_X3_faultOfPair, g1, k1, if_neg c0, q_let, ↓reduceIte]
      have hm : f_X8_doStrings (a1, a2, a3, a4, e, w, s, l, 0, 0, R) (uB B) K one two 251 (nI im) (nI a) (nI q) = ((a1, a2, a3, a4, e, w, s, l, c, 0, R), uB (B), one, two) := by
        simp (decide := true) only [f_X8_doStrings, p16, q16, r1, s1, hdec, q_let, ↓reduceIte]
      have hss : s_X8_doStrings (a1, a2, a3, a4, e, w, s, l, 0, 0, R) (uB B) K one two 251 (nI im) (nI a) (nI q) := by
        simp (decide := true) only [s_X8_doStrings, p16, q16, r1, s1, hsd, and_self, true_and, and_true, q_let, ↓reduceIte]
      exact ⟨_, _, _, _, _, _, _, _, _, _, _, hc, hm, Res_bad c1 hw hK (G' := G), hss⟩
  · obtain ⟨hdec, hsd0⟩ := dec_f1 (uB B) K one two 251 (nI a) (nI (rn + 1)) (nI q) (nI (sn + 1)) true (by decide) a1 a2 a3 a4 e w s l R c g2
    have hsd := hsd0 gs
    have hc : f_X3_doSs (x1, x2, x3, x4, 251, nI im, nI rn, nI sn, nI a, nI q) F Fd Z Zd (a1, a2, a3, a4) B K = (c, F, Fd, Z, Zd, (a1, a2, a3, a4), B) := by
      simp (decide := true) only [f_X3_doSs, f_X3_calculatePacked, r1, s1, f_X3_faultOfPair, g1, if_neg c0, q_let, ↓reduceIte]
    have hm : f_X8_doStrings (a1, a2, a3, a4, e, w, s, l, 0, 0, R) (uB B) K one two 251 (nI im) (nI a) (nI q) = ((a1, a2, a3, a4, e, w, s, l, c, 0, R), uB (B), one, two) := by
      simp (decide := true) only [f_X8_doStrings, p16, q16, r1, s1, hdec, q_let, ↓reduceIte]
    have hss : s_X8_doStrings (a1, a2, a3, a4, e, w, s, l, 0, 0, R) (uB B) K one two 251 (nI im) (nI a) (nI q) := by
      simp (decide := true) only [s_X8_doStrings, p16, q16, r1, s1, hsd, and_self, true_and, and_true, q_let, ↓reduceIte]
    exact ⟨_, _, _, _, _, _, _, _, _, _, _, hc, hm, Res_bad c1 hw hK (G' := G), hss⟩
theorem c248 (x1 : Bool) (x2 x3 x4 imm : Int32) (rn sn a q : Nat) (F : Bool) (Fd : rw_) (Z : Bool) (Zd B K : rw_) (T : tT) (hg : f_X3_storeFault T K (nI a) (nI (rn + 1)) 1 = 0) (hk : f_X3_readFault (nI q) (nI (sn + 1)) 1 = 0) (n2 n1 ng : Bool) (E' D' D2 : rw_) (t1 : f_X1_takeFrom Z Zd B (nI q) (nI (sn + 1)) = (true, n2, E')) (u1 : f_X1_becomeInt Fd 0 = (n1, D')) (ha : f_X1_add n1 D' n2 E' = (ng, D2)) (c : Int32) (T' : tT) (B' : rw_) (hy : f_X3_putPacked (x1, x2, x3, x4, 248, imm, nI rn, nI sn, nI a, nI q) ng D2 T B = (c, T', B')) :
    f_X3_calculatePacked (x1, x2, x3, x4, 248, imm, nI rn, nI sn, nI a, nI q) F Fd Z Zd T B K = (c, ng, D2, n2, E', T', B') := by
  have r1 : nI rn + (1 : Int32) = nI (rn + 1) := nI_1 rn
  have s1 : nI sn + (1 : Int32) = nI (sn + 1) := nI_1 sn
  have hf : f_X3_faultOfPair (x1, x2, x3, x4, 248, imm, nI rn, nI sn, nI a, nI q) 0 (nI (sn + 1)) = 0 := by
    unfold f_X3_faultOfPair
    rw [if_pos rfl]
    exact hk
  have h8 : (248 : Int32) = 248 := rfl
  have h1 : ¬ (248 : Int32) = 251 := by decide
  unfold f_X3_calculatePacked
  dsimp only
  rw [r1, s1, hg, hf, if_pos rfl, t1]
  unfold q_let
  dsimp only
  rw [if_pos rfl, if_pos h8, u1]
  dsimp only
  rw [if_neg h1, ha]
  dsimp only
  rw [hy]
theorem s248 (b K one two : rw_) (o : tO) (X : tO × rw_ × rw_ × rw_) (im p q : Int32) (h : f_X8_decimal o b K one two 248 p (im / (16 : Int32) + (1 : Int32)) q (im - im / (16 : Int32) * (16 : Int32) + (1 : Int32)) = X) (hs : s_X8_decimal o b K one two 248 p (im / (16 : Int32) + (1 : Int32)) q (im - im / (16 : Int32) * (16 : Int32) + (1 : Int32))) :
    f_X8_doStrings o b K one two 248 im p q = X ∧ s_X8_doStrings o b K one two 248 im p q := by
  have h7 : ¬ (248 : Int32) ≤ 247 := by decide
  refine ⟨?_, ?_⟩
  · unfold f_X8_doStrings
    rw [if_neg h7, h]
    rfl
  · unfold s_X8_doStrings
    rw [if_neg h7]
    exact hs
theorem ss_248 : SSok 248 := by
  intro x1 x2 x3 x4 rn sn a q F Fd Z Zd G B K one two a1 a2 a3 a4 e w s l R hr hs ha hq hw hK
  obtain ⟨im, him⟩ : ∃ im, im = rn * 16 + sn := ⟨_, rfl⟩
  have him2 : im < 256 := by omega
  have e1 : nI im + (1 : Int32) = nI (im + 1) := nI_1 im
  have hfu : ((nI (im + 1)).toInt - (0 : Int32).toInt).toNat + 1 = im + 1 + 1 := fuel_n (by omega)
  rw [← him]
  have p16 : nI im / (16 : Int32) = nI rn := (pk_div (d := 16) (by omega) (by omega) (by omega)).trans (by congr 1; omega)
  have q16 : nI im - nI rn * (16 : Int32) = nI sn := by rw [show nI rn * (16 : Int32) = nI (rn * 16) from pk_mul rn 16, pk_sub (by omega)]; congr 1; omega
  have r1 : nI rn + (1 : Int32) = nI (rn + 1) := nI_1 rn
  have s1 : nI sn + (1 : Int32) = nI (sn + 1) := nI_1 sn
  have h70 : ¬ (7 : Int32) ≤ 0 := by decide
  have w7 : ∀ (c : Bool), f_X8_wrong (a1, a2, a3, a4, e, w, s, l, 7, 0, R) c 7 = (a1, a2, a3, a4, e, w, s, l, 7, 0, R) := fun c => wr_n a1 a2 a3 a4 e w s l 7 0 R c 7 (by decide)
  have nft : ¬ false = true := by decide
  obtain ⟨gd, gs⟩ := goodS K a (rn + 1) 1 0 (nI (rn + 1)) 1 rfl (by decide) ha (by omega) (by omega) (by decide) (by omega) a1 a2 a3 a4 e w s l 0 R
  obtain ⟨hd, ht⟩ := goodR K q (sn + 1) 1 0 (nI (sn + 1)) 1 rfl (by decide) hq (by omega) (by omega) (by decide) (by omega) a1 a2 a3 a4 e w s l 0 R
  rcases gd with ⟨g1, g2, g3, g4⟩ | ⟨c, c0, c1, g1, g2⟩
  · rcases hd with ⟨k1, k2, k3, k4⟩ | ⟨c, c0, c1, k1, k2⟩
    · obtain ⟨ok2, n2, E', two', t1, t2, t3, t4⟩ := rdB Z Zd B q (sn + 1) (by omega) (by omega) k4 two
      obtain ⟨n1, m, D', u1, u2, u3, u4⟩ := become_eq Fd one 0
      obtain ⟨sp, hsp⟩ : ∃ sp, sp = f_X8_spread one 0 := ⟨_, rfl⟩
      rw [← hsp] at u3
      obtain ⟨un, um⟩ := u4 rfl
      subst un um
      cases ok2 with
      | false =>
        have hcal := cal_b x1 x2 x3 x4 248 (nI im) (nI rn) (nI sn) a q F Fd Z Zd B K (a1, a2, a3, a4) n2 E' (by rw [r1, s1, g1, fop0]; exact k1) (by rw [s1]; exact t1)
        obtain ⟨hdec, hsd0⟩ := dec_b8 (uB B) K one two 248 (nI a) (nI (rn + 1)) (nI q) (nI (sn + 1)) true (by decide) a1 a2 a3 a4 e w s l R rfl g2 k2 two' t2
        rw [← hsp] at hdec
        have hsd := hsd0 ⟨gs, ht, t3⟩
        have hc : f_X3_doSs (x1, x2, x3, x4, 248, nI im, nI rn, nI sn, nI a, nI q) F Fd Z Zd (a1, a2, a3, a4) B K = (7, F, Fd, n2, E', (a1, a2, a3, a4), B) := by
          simp (decide := true) only [f_X3_doSs, hcal, q_let, ↓reduceIte]
        have hm : f_X8_doStrings (a1, a2, a3, a4, e, w, s, l, 0, 0, R) (uB B) K one two 248 (nI im) (nI a) (nI q) = ((a1, a2, a3, a4, e, w, s, l, 7, 0, R), uB (B), sp, two') := by
          simp (decide := true) only [f_X8_doStrings, p16, q16, r1, s1, hdec, q_let, ↓reduceIte]
        have hss : s_X8_doStrings (a1, a2, a3, a4, e, w, s, l, 0, 0, R) (uB B) K one two 248 (nI im) (nI a) (nI q) := by
          simp (decide := true) only [s_X8_doStrings, p16, q16, r1, s1, hsd, and_self, true_and, and_true, q_let, ↓reduceIte]
        exact ⟨_, _, _, _, _, _, _, _, _, _, _, hc, hm, Res_bad (by decide) hw hK (G' := G), hss⟩
      | true =>
        obtain ⟨f, f1, f2, f3, f4, f5, f6⟩ := t4 rfl
        have hz : ∀ k, ((dgt 0 k : Nat) : Int) = 0 := fun k => by rw [dgt_0]; rfl
        obtain ⟨X, hX⟩ : ∃ X : Nat → Int, X = fun k => sg false * ((dgt 0 k : Nat) : Int) + sg n2 * f k := ⟨_, rfl⟩
        obtain ⟨r, ng, D2, v1, v2, v3, v4, v5, v6⟩ := addS D' E' (fun k => ((dgt 0 k : Nat) : Int)) f (fun k => by rw [hz k]; omega) f1 u2 f4 (fun k _ => hz k) f2 false n2 X hX
        have hXX : ∀ k, X k = if (248 : Int32) = 249 ∨ (248 : Int32) = 251 then sg false * ((dgt 0 k : Nat) : Int) - sg n2 * f k else sg false * ((dgt 0 k : Nat) : Int) + sg n2 * f k := by
          intro k
          rw [hX, if_neg (by decide)]
        have hadd : f_X1_add false D' n2 E' = (ng, D2) := by
          unfold f_X1_add
          rw [v1]; rfl
        obtain ⟨c, b3, B', one2, y1, y2, y3, y4⟩ := calcBb x1 x2 x3 x4 248 (nI im) rn (nI sn) a (nI q) (by decide) hr g4 B sp two' D2 (fun k => sg false * ((dgt 0 k : Nat) : Int)) (fun k => sg n2 * f k) X r ng hXX u3 f5 v2 v3 v4 v5 v6 a1 a2 a3 a4 e w s l R hw.1
        have hcc := c248 x1 x2 x3 x4 (nI im) rn sn a q F Fd Z Zd B K (a1, a2, a3, a4) g1 k1 n2 false ng E' D' D2 t1 u1 hadd c (a1, a2, b3, a4) B' y1
        obtain ⟨hdec, hsd0⟩ := dec_go8 (uB B) K one two 248 (nI a) (nI (rn + 1)) (nI q) (nI (sn + 1)) true (by decide) a1 a2 a3 a4 e w s l R rfl g2 k2 two' t2
        rw [← hsp] at hdec hsd0
        have hsd := hsd0 ⟨gs, ht, t3, y4⟩
        obtain ⟨hm, hss⟩ := s248 (uB B) K one two (a1, a2, a3, a4, e, w, s, l, 0, 0, R) ((a1, a2, b3, a4, e, w, s, l, 0, c, R), uB B', one2, two') (nI im) (nI a) (nI q) (by rw [p16, q16, r1, s1]; exact hdec.trans y2) (by rw [p16, q16, r1, s1]; exact hsd)
        have hc : f_X3_doSs (x1, x2, x3, x4, 248, nI im, nI rn, nI sn, nI a, nI q) F Fd Z Zd (a1, a2, a3, a4) B K = (c, ng, D2, n2, E', (a1, a2, b3, a4), B') := by
          simp (decide := true) only [f_X3_doSs, q_let, ↓reduceIte, hcc]
        exact ⟨_, _, _, _, _, _, _, _, _, _, _, hc, hm, Res_ok (Wf_cc hw y3) hK (G' := G), hss⟩
    · have hcal := cal_f x1 x2 x3 x4 248 (nI im) (nI rn) (nI sn) a q F Fd Z Zd B K (a1, a2, a3, a4) c c0 (by rw [r1, s1, g1, fop0]; exact k1)
      obtain ⟨hdec, hsd0⟩ := dec_f2 (uB B) K one two 248 (nI a) (nI (rn + 1)) (nI q) (nI (sn + 1)) true (by decide) a1 a2 a3 a4 e w s l R c g2 k2
      have hsd := hsd0 ⟨gs, ht⟩
      have hc : f_X3_doSs (x1, x2, x3, x4, 248, nI im, nI rn, nI sn, nI a, nI q) F Fd Z Zd (a1, a2, a3, a4) B K = (c, F, Fd, Z, Zd, (a1, a2, a3, a4), B) := by
        simp (decide := true) only [f_X3_doSs, hcal, q_let, ↓reduceIte]
      have hm : f_X8_doStrings (a1, a2, a3, a4, e, w, s, l, 0, 0, R) (uB B) K one two 248 (nI im) (nI a) (nI q) = ((a1, a2, a3, a4, e, w, s, l, c, 0, R), uB (B), one, two) := by
        simp (decide := true) only [f_X8_doStrings, p16, q16, r1, s1, hdec, q_let, ↓reduceIte]
      have hss : s_X8_doStrings (a1, a2, a3, a4, e, w, s, l, 0, 0, R) (uB B) K one two 248 (nI im) (nI a) (nI q) := by
        simp (decide := true) only [s_X8_doStrings, p16, q16, r1, s1, hsd, and_self, true_and, and_true, q_let, ↓reduceIte]
      exact ⟨_, _, _, _, _, _, _, _, _, _, _, hc, hm, Res_bad c1 hw hK (G' := G), hss⟩
  · have hcal := cal_f x1 x2 x3 x4 248 (nI im) (nI rn) (nI sn) a q F Fd Z Zd B K (a1, a2, a3, a4) c c0 (by rw [r1, s1, g1]; exact fopc _ _ _ _ _ _ _ _ _ _ _ _ c0)
    obtain ⟨hdec, hsd0⟩ := dec_f1 (uB B) K one two 248 (nI a) (nI (rn + 1)) (nI q) (nI (sn + 1)) true (by decide) a1 a2 a3 a4 e w s l R c g2
    have hsd := hsd0 gs
    have hc : f_X3_doSs (x1, x2, x3, x4, 248, nI im, nI rn, nI sn, nI a, nI q) F Fd Z Zd (a1, a2, a3, a4) B K = (c, F, Fd, Z, Zd, (a1, a2, a3, a4), B) := by
      simp (decide := true) only [f_X3_doSs, hcal, q_let, ↓reduceIte]
    have hm : f_X8_doStrings (a1, a2, a3, a4, e, w, s, l, 0, 0, R) (uB B) K one two 248 (nI im) (nI a) (nI q) = ((a1, a2, a3, a4, e, w, s, l, c, 0, R), uB (B), one, two) := by
      simp (decide := true) only [f_X8_doStrings, p16, q16, r1, s1, hdec, q_let, ↓reduceIte]
    have hss : s_X8_doStrings (a1, a2, a3, a4, e, w, s, l, 0, 0, R) (uB B) K one two 248 (nI im) (nI a) (nI q) := by
      simp (decide := true) only [s_X8_doStrings, p16, q16, r1, s1, hsd, and_self, true_and, and_true, q_let, ↓reduceIte]
    exact ⟨_, _, _, _, _, _, _, _, _, _, _, hc, hm, Res_bad c1 hw hK (G' := G), hss⟩
