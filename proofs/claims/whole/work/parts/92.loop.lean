/-! the class's step by ways; both sides; the loop -/
theorem cs_1 (s pin l y5 y6 y7 y8 y9 y10 : Int32) (C : tCh) (F : Bool) (Fd G : rw_) (Z : Bool) (Zd : rw_) (T : tT) (B K : rw_) (h : f_X5_allows T 1 = true) (T' : tT) (B' : rw_) (hi : f_X3_interrupt T B 24 88 128 = (T', B')) :
    f_X3_makeStep (true, s, pin, l, y5, y6, y7, y8, y9, y10) C F Fd G Z Zd T B K = ((false, s + (1 : Int32), pin, l, y5, y6, y7, y8, y9, y10), C, F, Fd, G, Z, Zd, T', B', K) := by
  have ht : f_X3_takeInterruption (true, s + (1 : Int32), pin, l, y5, y6, y7, y8, y9, y10) C T B = (true, (false, s + (1 : Int32), pin, l, y5, y6, y7, y8, y9, y10), C, T', B') := by
    unfold f_X3_takeInterruption
    rw [if_pos rfl, if_pos h, hi]
    rfl
  unfold f_X3_makeStep
  dsimp only
  rw [ht]
  unfold q_let
  dsimp only
  rw [if_pos rfl]
theorem cs_2 (e : Bool) (s pin l y5 y6 y7 y8 y9 y10 : Int32) (works : Bool) (dev : Int32) (c : Int32 × Int32 × Bool × Bool × Bool × Int32 × Int32 × Int32 × Int32 × Int32) (F : Bool) (Fd G : rw_) (Z : Bool) (Zd : rw_) (T : tT) (B K : rw_) (h1 : ¬ (e = true ∧ f_X5_allows T 1 = true)) (h2 : f_X5_allows T 2 = true) (T' : tT) (B' : rw_) (hi : f_X3_interrupt T B 56 120 dev = (T', B')) :
    f_X3_makeStep (e, s, pin, l, y5, y6, y7, y8, y9, y10) (works, true, dev, c) F Fd G Z Zd T B K = ((e, s + (1 : Int32), pin, l, y5, y6, y7, y8, y9, y10), (works, false, dev, c), F, Fd, G, Z, Zd, T', B', K) := by
  obtain ⟨c1, c2, c3, c4, c5, c6, c7, c8, c9, c10⟩ := c
  have ht : f_X3_takeInterruption (e, s + (1 : Int32), pin, l, y5, y6, y7, y8, y9, y10) (works, true, dev, c1, c2, c3, c4, c5, c6, c7, c8, c9, c10) T B = (true, (e, s + (1 : Int32), pin, l, y5, y6, y7, y8, y9, y10), (works, false, dev, c1, c2, c3, c4, c5, c6, c7, c8, c9, c10), T', B') := by
    unfold f_X3_takeInterruption
    dsimp only
    by_cases k : e = true
    · rw [if_pos k, if_neg (fun q => h1 ⟨k, q⟩), if_pos rfl, if_pos h2, hi]
      rfl
    · rw [if_neg k, if_pos rfl, if_pos h2, hi]
      rfl
  unfold f_X3_makeStep
  dsimp only
  rw [ht]
  unfold q_let
  dsimp only
  rw [if_pos rfl]
theorem cs_3 (e : Bool) (s pin l y5 y6 y7 y8 y9 y10 : Int32) (works waits : Bool) (r : Int32 × Int32 × Int32 × Bool × Bool × Bool × Int32 × Int32 × Int32 × Int32 × Int32) (F : Bool) (Fd G : rw_) (Z : Bool) (Zd : rw_) (T : tT) (B K : rw_) (h1 : ¬ (e = true ∧ f_X5_allows T 1 = true)) (h2 : ¬ (waits = true ∧ f_X5_allows T 2 = true)) (v : Int32) (hv : v = f_X6_wordAt B 80 - (1 : Int32)) (e' : Bool) (he : e' = if e = true then true else (if v = -1 then true else false)) :
    f_X3_makeStep (e, s, pin, l, y5, y6, y7, y8, y9, y10) (works, waits, r) F Fd G Z Zd T B K = tailC (e', s + (1 : Int32), pin, l, y5, y6, y7, y8, y9, y10) (works, waits, r) F Fd G Z Zd T (f_X6_putWord B 80 v) K := by
  have ht : f_X3_takeInterruption (e, s + (1 : Int32), pin, l, y5, y6, y7, y8, y9, y10) (works, waits, r) T B = (false, (e, s + (1 : Int32), pin, l, y5, y6, y7, y8, y9, y10), (works, waits, r), T, B) := by
    unfold f_X3_takeInterruption
    dsimp only
    have hz : ∀ (x y : Bool × tP × tCh × tT × rw_), (if waits = true then (if f_X5_allows T 2 = true then x else y) else y) = y := by
      intro x y
      by_cases k : waits = true
      · rw [if_pos k, if_neg (fun q => h2 ⟨k, q⟩)]
      · rw [if_neg k]
    rw [hz]
    by_cases k : e = true
    · rw [if_pos k, if_neg (fun q => h1 ⟨k, q⟩)]
    · rw [if_neg k]
  have hr : f_X3_runTimer (e, s + (1 : Int32), pin, l, y5, y6, y7, y8, y9, y10) B = ((e', s + (1 : Int32), pin, l, y5, y6, y7, y8, y9, y10), f_X6_putWord B 80 v) := by
    unfold f_X3_runTimer q_let
    dsimp only
    rw [← hv, he]
    by_cases k : v = -1
    · rw [if_pos k, if_pos k, ite_self]
    · rw [if_neg k, if_neg k]
      cases e <;> rfl
  unfold f_X3_makeStep
  dsimp only
  rw [ht]
  unfold q_let
  dsimp only
  rw [if_neg (show ¬ false = true by decide), hr]
  rfl
theorem step_rel {i : Nat} {P : tP} {C : tCh} {L : Int32 × Int32} {line : rw_} {Rd : tRd} {lens mkg qu rc G B K : rw_} {T : tT} {o : tO} {b card filled keys line' reg tk : rw_} (F : Bool) (Fd : rw_) (Z : Bool) (Zd one two : rw_)
    (h1 : R_st T o) (h2 : R_pr P o) (h3 : R_mem G B K b keys reg) (h4 : R_ch i C L line o line') (h5 : R_rd Rd lens mkg qu rc o card filled tk) :
    ∃ (n : Int32) (P' : tP) (C' : tCh) (F' : Bool) (Fd' G' : rw_) (Z' : Bool) (Zd' : rw_) (T' : tT) (B' K' : rw_) (o' : tO) (b' keys' one' reg' two' : rw_), f_X3_makeStep P C F Fd G Z Zd T B K = (P', C', F', Fd', G', Z', Zd', T', B', K') ∧ f_X8_makeStep o b keys one reg two = (n, o', b', keys', one', reg', two') ∧ s_X8_makeStep o b keys one reg two ∧ P'.2.2.1 = P.2.2.1 + n ∧ R_st T' o' ∧ R_pr P' o' ∧ R_mem G' B' K' b' keys' reg' ∧ R_ch i C' L line o' line' ∧ R_rd Rd lens mkg qu rc o' card filled tk := by
  obtain ⟨a1, a2, a3, a4, e, w, s, l, f, t, R⟩ := o
  obtain ⟨t1, t2, t3, t4⟩ := T
  obtain ⟨p1, p2, pin, p4, y5, y6, y7, y8, y9, y10⟩ := P
  obtain ⟨q1, q2, q3, q4, w1, w2, w3, w4⟩ := h1
  obtain ⟨r1, r2, r3⟩ := h2
  obtain ⟨g1, g2, g3, hK⟩ := h3
  subst q1 q2 q3 q4 r1 r2 r3 g1 g2 g3
  have hw : Wf t1 t2 t3 t4 := ⟨w1, w2, w3, w4⟩
  have hc := ChR_of h4 h5
  have b1 := al1 (a1 := t1) (a2 := t2) (a3 := t3) (a4 := t4) w1
  have b2 := al2 (a1 := t1) (a2 := t2) (a3 := t3) (a4 := t4) w1
  by_cases k1 : p1 = true ∧ f_X5_allows (t1, t2, t3, t4) 1 = true
  · obtain ⟨k1e, k1a⟩ := k1
    subst k1e
    obtain ⟨c1, c2, c3, c4, B', i1, i2, i3, i4⟩ := intr_eq B 24 88 (by omega) (by omega) 128 t1 t2 t3 t4 false w (p2 + (1 : Int32)) p4 f t R hw
    rw [show nI 24 = (24 : Int32) from rfl, show nI 88 = (88 : Int32) from rfl] at i1 i2 i4
    obtain ⟨m1, m2⟩ := ms_1 t1 t2 t3 t4 w p2 p4 f t R (uB B) K one G two (b1.mp k1a) _ _ i2 i4
    obtain ⟨z1, z2⟩ := ChR_to hc c1 c2 c3 c4 false (p2 + (1 : Int32)) p4 f t
    exact ⟨0, _, C, F, Fd, G, Z, Zd, _, B', K, _, uB B', K, one, G, two, cs_1 p2 pin p4 y5 y6 y7 y8 y9 y10 C F Fd G Z Zd _ B K k1a _ _ i1, m1, m2, (Int32.add_zero pin).symm, ⟨rfl, rfl, rfl, rfl, i3.1, i3.2.1, i3.2.2.1, i3.2.2.2⟩, ⟨rfl, rfl, rfl⟩, ⟨rfl, rfl, rfl, hK⟩, z1, z2⟩
  have k1' : ¬ (p1 = true ∧ t1 - t1 / (2 : Int32) * (2 : Int32) = 1) := fun q => k1 ⟨q.1, b1.mpr q.2⟩
  obtain ⟨works, waits, dev, c⟩ := C
  obtain ⟨wk, chd, jmp, dev', r⟩ := R
  obtain ⟨v1, v2, v3⟩ := ChR_eq hc
  subst v1 v2 v3
  by_cases k2 : waits = true ∧ f_X5_allows (t1, t2, t3, t4) 2 = true
  · obtain ⟨k2e, k2a⟩ := k2
    subst k2e
    obtain ⟨c1, c2, c3, c4, B', i1, i2, i3, i4⟩ := intr_eq B 56 120 (by omega) (by omega) dev t1 t2 t3 t4 p1 false (p2 + (1 : Int32)) p4 f t (works, chd, jmp, dev, r) hw
    rw [show nI 56 = (56 : Int32) from rfl, show nI 120 = (120 : Int32) from rfl] at i1 i2 i4
    obtain ⟨m1, m2⟩ := ms_2 t1 t2 t3 t4 p1 p2 p4 f t works chd jmp dev r (uB B) K one G two k1' (b2.mp k2a) _ _ i2 i4
    obtain ⟨z1, z2⟩ := ChR_to (ChR_wait hc false) c1 c2 c3 c4 p1 (p2 + (1 : Int32)) p4 f t
    exact ⟨0, _, _, F, Fd, G, Z, Zd, _, B', K, _, uB B', K, one, G, two, cs_2 p1 p2 pin p4 y5 y6 y7 y8 y9 y10 works dev c F Fd G Z Zd _ B K k1 k2a _ _ i1, m1, m2, (Int32.add_zero pin).symm, ⟨rfl, rfl, rfl, rfl, i3.1, i3.2.1, i3.2.2.1, i3.2.2.2⟩, ⟨rfl, rfl, rfl⟩, ⟨rfl, rfl, rfl, hK⟩, z1, z2⟩
  have k2' : ¬ (waits = true ∧ t1 / (2 : Int32) - t1 / (2 : Int32) / (2 : Int32) * (2 : Int32) = 1) := fun q => k2 ⟨q.1, b2.mpr q.2⟩
  obtain ⟨u1, u2, u3, u4⟩ := timer_eq B
  obtain ⟨v, hv⟩ : ∃ v, v = f_X6_wordAt B 80 - (1 : Int32) := ⟨_, rfl⟩
  obtain ⟨e', he⟩ : ∃ e', e' = if p1 = true then true else (if v = -1 then true else false) := ⟨_, rfl⟩
  have hcs := cs_3 p1 p2 pin p4 y5 y6 y7 y8 y9 y10 works waits (dev, c) F Fd G Z Zd (t1, t2, t3, t4) B K k1 k2 v hv e' he
  obtain ⟨code, z5, z6, z7, z8, z9, z10, C', F', Fd', G', Z', Zd', T', B', K', o', b', keys', one', reg', two', w', R', x1, x2, x3, x4, x5⟩ := exec_rel i e' (p2 + (1 : Int32)) pin p4 y5 y6 y7 y8 y9 y10 (works, waits, dev, c) L line F Fd G Z Zd t1 t2 t3 t4 (f_X6_putWord B 80 v) K one two waits (works, chd, jmp, dev, r) line' Rd lens mkg qu rc card filled tk hw hK hc
  obtain ⟨n, l', c1, c2, c3, c4, f', t', B2, n1, n2, n3, n4, n5⟩ := fin_rel x3 pin z5 z6 z7 z8 z9 z10 C' F' Fd' Z' Zd' one' two'
  obtain ⟨m1, m2⟩ := ms_3 t1 t2 t3 t4 p1 waits p2 p4 f t (works, chd, jmp, dev, r) B K one G two k1' k2' v (by rw [hv, u1]) e' he _ (u2 v).symm o' b' keys' one' reg' two' x2 x5 n5
  obtain ⟨z1, z2⟩ := ChR_to x4 c1 c2 c3 c4 e' (p2 + (1 : Int32)) l' f' t'
  rw [n2] at m1
  rw [x1, n1] at hcs
  exact ⟨n, _, C', F', Fd', G', Z', Zd', _, B2, K', _, _, _, one', _, two', hcs, m1, m2, rfl, ⟨rfl, rfl, rfl, rfl, n3.1, n3.2.1, n3.2.2.1, n3.2.2.2⟩, ⟨rfl, rfl, rfl⟩, ⟨rfl, rfl, rfl, n4⟩, z1, z2⟩
theorem sub_cancel (x y : Int32) : x + y - x = y := by
  rw [Int32.add_comm]
  exact Int32.add_sub_cancel y x
theorem step_loop (i : Nat) (P0 : tP) (p1 : Int32) (L : Int32 × Int32) (line : rw_) (Rd : tRd) (lens mkg qu rc card filled line' tk : rw_) : ∀ (fuel : Nat) (P : tP) (C : tCh) (F : Bool) (Fd G : rw_) (Z : Bool) (Zd : rw_) (T : tT) (B K : rw_) (o : tO) (b keys one reg two : rw_) (x3 x2 : Int32), P.2.2.1 = P0.2.2.1 + x2 → R_st T o → R_pr P o → R_mem G B K b keys reg → R_ch i C L line o line' → R_rd Rd lens mkg qu rc o card filled tk →
    ∃ (r : Int32) (P' : tP) (C' : tCh) (F' : Bool) (Fd' G' : rw_) (Z' : Bool) (Zd' : rw_) (T' : tT) (B' K' : rw_) (o' : tO) (b' keys' one' reg' two' : rw_), f_X7_step_L23 P0 p1 fuel P C F Fd G Z Zd T B K x3 = (r, P', C', F', Fd', G', Z', Zd', T', B', K') ∧ f_X8_step_L17 p1 fuel o b keys one reg two x3 x2 = (r, o', b', keys', one', reg', two') ∧ s_X8_step_L17 p1 fuel o b keys one reg two x3 x2 ∧ R_st T' o' ∧ R_pr P' o' ∧ R_mem G' B' K' b' keys' reg' ∧ R_ch i C' L line o' line' ∧ R_rd Rd lens mkg qu rc o' card filled tk := by
  intro fuel
  induction fuel with
  | zero =>
    intro P C F Fd G Z Zd T B K o b keys one reg two x3 x2 hp h1 h2 h3 h4 h5
    exact ⟨0, P, C, F, Fd, G, Z, Zd, T, B, K, o, b, keys, one, reg, two, rfl, rfl, trivial, h1, h2, h3, h4, h5⟩
  | succ fuel ih =>
    intro P C F Fd G Z Zd T B K o b keys one reg two x3 x2 hp h1 h2 h3 h4 h5
    rw [f_X7_step_L23, f_X8_step_L17, s_X8_step_L17]
    by_cases c : p1 ≤ x3
    · rw [if_pos c, if_pos c, if_pos c]
      exact ⟨x2, P, C, F, Fd, G, Z, Zd, T, B, K, o, b, keys, one, reg, two, by rw [hp, sub_cancel], rfl, trivial, h1, h2, h3, h4, h5⟩
    · rw [if_neg c, if_neg c, if_neg c]
      obtain ⟨n, P', C', F', Fd', G', Z', Zd', T', B', K', o', b', keys', one', reg', two', m1, m2, m3, m4, m5, m6, m7, m8, m9⟩ := step_rel F Fd Z Zd one two h1 h2 h3 h4 h5
      obtain ⟨r, P2, C2, F2, Fd2, G2, Z2, Zd2, T2, B2, K2, o2, b2, keys2, one2, reg2, two2, n1, n2, n3, n4⟩ := ih P' C' F' Fd' G' Z' Zd' T' B' K' o' b' keys' one' reg' two' (x3 + (1 : Int32)) (x2 + n) (by rw [m4, hp, Int32.add_assoc]) m5 m6 m7 m8 m9
      refine ⟨r, P2, C2, F2, Fd2, G2, Z2, Zd2, T2, B2, K2, o2, b2, keys2, one2, reg2, two2, ?_, ?_, ⟨m3, ?_⟩, n4⟩
      · rw [m1]; exact n1
      · rw [m2]; exact n2
      · rw [m2]; exact n3
theorem rl_step : Ok_step Rl := by
  intro i P C L line Rd lens mkg qu rc F Fd G Z Zd T B K o b card filled keys line' one reg tk two v1 hi h
  have hm := rl_mono i _ _ h
  obtain ⟨h1, h2, h3, h4, h5⟩ := h
  unfold f_X7_step f_X8_step s_X8_step
  by_cases c1 : v1 < (1 : Int32)
  · simp only [if_pos c1]
    exact ⟨trivial, trivial, hm⟩
  · by_cases c2 : v1 ≤ (50 : Int32)
    · obtain ⟨r, P', C', F', Fd', G', Z', Zd', T', B', K', o', b', keys', one', reg', two', e1, e2, e3, e4, e5, e6, e7, e8⟩ := step_loop i P v1 L line Rd lens mkg qu rc card filled line' tk ((v1.toInt - (0 : Int32).toInt).toNat + 1) P C F Fd G Z Zd T B K o b keys one reg two 0 0 (Int32.add_zero _).symm h1 h2 h3 h4 h5
      simp only [if_neg c1, if_pos c2, e1, e2]
      exact ⟨e3, trivial, rl_mono i _ _ ⟨e4, e5, e6, e7, e8⟩⟩
    · simp only [if_neg c1, if_neg c2]
      exact ⟨trivial, trivial, hm⟩
