/-! the channel's loop: both sides, the same number of moves -/
theorem chan_loop (K : rw_) (p1 : Int32) (hp : p1.toInt ≤ 50) (P : tP) (T : tT) (lens mkg qu : rw_) : ∀ (fuel N : Nat) (C : tCh) (L : Int32 × Int32) (line : rw_) (Rd : tRd) (rc B : rw_) (o : tO) (b card filled tk line' : rw_) (x : Int32), 0 ≤ x.toInt → N + (p1.toInt - x.toInt).toNat ≤ 4000 → Mv N P T C L line Rd lens mkg qu rc B o b card filled tk line' →
    ∃ (r : Int32) (C' : tCh) (L' : Int32 × Int32) (line1 : rw_) (Rd' : tRd) (rc' B' : rw_) (o' : tO) (b' card' filled' line1' tk' : rw_), f_X7_channel_L15 lens qu K p1 fuel C L line Rd rc B x = (r, C', L', line1, Rd', rc', B') ∧ f_X8_channel_L15 K p1 fuel o b card filled line' tk x = (r, o', b', card', filled', line1', tk') ∧ s_X8_channel_L15 K p1 fuel o b card filled line' tk x ∧ Mv (N + (p1.toInt - x.toInt).toNat) P T C' L' line1 Rd' lens mkg qu rc' B' o' b' card' filled' tk' line1' := by
  intro fuel
  induction fuel with
  | zero =>
    intro N C L line Rd rc B o b card filled tk line' x h0 hN h
    obtain ⟨h1, h2, h3, h4, h5⟩ := h
    exact ⟨0, C, L, line, Rd, rc, B, o, b, card, filled, line', tk, rfl, rfl, trivial, h1, h2, h3, R_mv_mono (by omega) h4, h5⟩
  | succ fuel ih =>
    intro N C L line Rd rc B o b card filled tk line' x h0 hN h
    rw [f_X7_channel_L15, f_X8_channel_L15, s_X8_channel_L15]
    by_cases c1 : p1 ≤ x
    · rw [if_pos c1, if_pos c1, if_pos c1]
      obtain ⟨h1, h2, h3, h4, h5⟩ := h
      exact ⟨x, C, L, line, Rd, rc, B, o, b, card, filled, line', tk, rfl, rfl, trivial, h1, h2, h3, R_mv_mono (by omega) h4, h5⟩
    · rw [if_neg c1, if_neg c1, if_neg c1]
      have c2 : x.toInt < p1.toInt := by rw [q_le] at c1; omega
      have c3 := q_inc c2
      have hwk : C.1 = o.2.2.2.2.2.2.2.2.2.2.1 := by
        obtain ⟨v1, v2, v3, v4⟩ := C
        obtain ⟨l1, l2⟩ := L
        obtain ⟨a1, a2, a3, a4, e, wt, s, l, f, t, wk, chd, jmp, dev, okey, chn, cmd, plc, flg, cnt, rdy, tsz, rd, lns, onl⟩ := o
        exact h.2.2.2.1.1
      rw [← hwk]
      by_cases cw : C.1 = true
      · rw [if_pos cw, if_pos cw, if_pos cw]
        have hcm : C.2.2.2.2.2.1 = true ↔ ¬ o.2.2.2.2.2.2.2.2.2.2.2.2.2.2.2.2.1 = 0 := by
          obtain ⟨v1, v2, v3, v4, v5, v6, v7, v8, v9, v10, v11, v12, v13⟩ := C
          obtain ⟨l1, l2⟩ := L
          obtain ⟨a1, a2, a3, a4, e, wt, s, l, f, t, wk, chd, jmp, dev, okey, chn, cmd, plc, flg, cnt, rdy, tsz, rd, lns, onl⟩ := o
          exact (h.2.2.2.1.2.2.2.2.2.2.2.2 cw).2.2.2.2.2.2.1
        by_cases ch : C.2.2.2.2.2.1 = true
        · have c0 := hcm.mp ch
          rw [if_neg c0, if_neg c0]
          obtain ⟨C', L', line1, Rd', B', o', b', line1', e1, e2, e3, e4⟩ := move_rel (by omega) K h cw ch
          obtain ⟨r, C2, L2, line2, Rd2, rc2, B2, o2, b2, card2, filled2, line2', tk2, f1, f2, f3, f4⟩ := ih (N + 1) C' L' line1 Rd' rc B' o' b' card filled tk line1' (x + 1) (by rw [c3]; omega) (by rw [c3]; omega) e4
          refine ⟨r, C2, L2, line2, Rd2, rc2, B2, o2, b2, card2, filled2, line2', tk2, ?_, ?_, ⟨e3, ?_⟩, ?_⟩
          · rw [e1]; exact f1
          · rw [e2]; exact f2
          · rw [e2]; exact f3
          · rw [show N + (p1.toInt - x.toInt).toNat = N + 1 + (p1.toInt - (x + 1).toInt).toNat by rw [c3]; omega]; exact f4
        · have c0 : o.2.2.2.2.2.2.2.2.2.2.2.2.2.2.2.2.1 = 0 := Classical.byContradiction fun q => ch (hcm.mpr q)
          rw [if_pos c0, if_pos c0]
          obtain ⟨C', L', Rd', rc', B', o', b', card', filled', tk', e1, e2, e3, e4⟩ := take_rel K h cw (by cases q : C.2.2.2.2.2.1 with | true => exact absurd q ch | false => rfl)
          obtain ⟨g1, g2, g3, g4, g5⟩ := e4
          obtain ⟨r, C2, L2, line2, Rd2, rc2, B2, o2, b2, card2, filled2, line2', tk2, f1, f2, f3, f4⟩ := ih (N + 1) C' L' line Rd' rc' B' o' b' card' filled' tk' line' (x + 1) (by rw [c3]; omega) (by rw [c3]; omega) ⟨g1, g2, g3, R_mv_mono (by omega) g4, g5⟩
          refine ⟨r, C2, L2, line2, Rd2, rc2, B2, o2, b2, card2, filled2, line2', tk2, ?_, ?_, ⟨e3, ?_⟩, ?_⟩
          · rw [e1]; exact f1
          · rw [e2]; exact f2
          · rw [e2]; exact f3
          · rw [show N + (p1.toInt - x.toInt).toNat = N + 1 + (p1.toInt - (x + 1).toInt).toNat by rw [c3]; omega]; exact f4
      · rw [if_neg cw, if_neg cw, if_neg cw]
        obtain ⟨h1, h2, h3, h4, h5⟩ := h
        exact ⟨x, C, L, line, Rd, rc, B, o, b, card, filled, line', tk, rfl, rfl, trivial, h1, h2, h3, R_mv_mono (by omega) h4, h5⟩
theorem rl_channel : Ok_channel Rl := by
  intro i P C L line Rd lens mkg qu rc F Fd G Z Zd T B K o b card filled keys line' one reg tk two v1 hi h
  have hm := rl_mono i _ _ h
  obtain ⟨h1, h2, h3, h4, h5⟩ := h
  obtain ⟨k1, k2, k3, k4⟩ := h3
  subst k3
  unfold f_X7_channel f_X8_channel s_X8_channel
  by_cases c1 : v1 < (1 : Int32)
  · simp only [if_pos c1]
    exact ⟨trivial, trivial, hm⟩
  · by_cases c2 : v1 ≤ (50 : Int32)
    · have c3 : v1.toInt ≤ 50 := by rw [q_le] at c2; exact c2
      obtain ⟨r, C', L', line1, Rd', rc', B', o', b', card', filled', line1', tk', e1, e2, e3, e4⟩ := chan_loop K v1 c3 P T lens mkg qu ((v1.toInt - (0 : Int32).toInt).toNat + 1) (10 * i) C L line Rd rc B o b card filled tk line' 0 (by decide) (by rw [q_0]; omega) ⟨h1, h2, k2, R_mv_of h4, h5⟩
      simp only [if_neg c1, if_pos c2, e1, e2]
      obtain ⟨g1, g2, g3, g4, g5⟩ := e4
      exact ⟨e3, trivial, g1, g2, ⟨k1, g3, rfl, k4⟩, R_mv_to (by rw [q_0]; omega) g4, g5⟩
    · simp only [if_neg c1, if_neg c2]
      exact ⟨trivial, trivial, hm⟩
