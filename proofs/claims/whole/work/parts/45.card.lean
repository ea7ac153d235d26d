/-! punch and card, the calls -/
theorem rl_punch : Ok_punch Rl := by
  rintro i P C L line ⟨made, front, wait, rlen, tkn⟩ lens mkg qu rc F Fd G Z Zd T B K ⟨mask', key', cc', addr', ext', waits', stp', lat', flt, lte, works', chd, jmp', dev', okey, chn, cmd, plc, flg', cnt', rdy, tsz, rd, lns', onl⟩ b card filled keys line' one reg tk two v1 v2 hi h
  have hm := rl_mono i _ _ h
  have hQ := R_rd_to hm.2.2.2.2
  obtain ⟨h1, h2, h3, h4, h5⟩ := hm
  obtain ⟨r, hr, rfl⟩ := rg_nI (n := 9) hQ.2.1 (by omega)
  have er : (nI r).toNatClampNeg = r := nI_clamp (by omega)
  have hfill : made = filled r := by have := hQ.2.2.2.1; rw [er] at this; exact this
  obtain ⟨f, hf, ef⟩ := rg_nI (n := 17) (hQ.2.2.2.2.1 r (by rw [er]; exact Nat.le_refl r)) (by omega)
  rw [ef] at hfill
  subst hfill
  unfold s_X8_punch f_X7_punch f_X8_punch
  by_cases c1 : v2 < 1
  · rw [if_pos c1, if_pos c1, if_pos c1]; exact ⟨trivial, rfl, h1, h2, h3, h4, h5⟩
  rw [if_neg c1, if_neg c1, if_neg c1]
  by_cases c2 : (8 : Int32) < v2
  · rw [if_pos c2, if_pos c2, if_pos c2]; exact ⟨trivial, rfl, h1, h2, h3, h4, h5⟩
  rw [if_neg c2, if_neg c2, if_neg c2]
  rw [q_lt, q_1] at c1
  rw [q_lt, q_8] at c2
  obtain ⟨n, hn, rfl⟩ := nI_of (x := v2) (by rw [q_lt, q_0]; omega)
  rw [nI_toInt hn] at c1 c2
  have hfu : (((nI n - (1 : Int32)) : Int32).toInt + 1).toNat + 1 = n + 1 := by
    rw [q_subI (by rw [q_1, nI_toInt hn]; omega) (by rw [q_1, nI_toInt hn]; omega), q_1, nI_toInt hn]
    omega
  have hv : vp_in (nI r) 10 := vp_in_nI (by omega) (by omega)
  unfold f_X4_hasRoomFor
  dsimp only
  rw [er, ef, nI_add]
  by_cases c3 : f + n ≤ 16
  · have d1 : nI (f + n) ≤ 16 := nI_le (b := 16) c3 (by omega)
    have d2 : ¬ (16 : Int32) < nI (f + n) := nI_nlt (b := f + n) (a := 16) c3 (by omega)
    rw [if_pos d1, if_pos d1, if_neg d2, if_pos rfl, hfu]
    obtain ⟨mkg', card', filled', e1, e2, e3, e4⟩ := punch_loop v1 (mask', key', cc', addr', ext', waits', stp', lat', flt, lte, works', chd, jmp', dev', okey, chn, cmd, plc, flg', cnt', nI r, tsz, rd, lns', onl) r (by omega) rfl front wait rlen tkn lens qu rc tsz rd tk n f mkg card filled (n + 1) (by omega) c3 (by omega) hQ
    refine ⟨⟨hv, e3⟩, ?_, ?_⟩
    · rw [e1, e2]
    · rw [e1, e2]
      exact ⟨h1, h2, h3, h4, R_rd_of e4⟩
  · have d1 : ¬ nI (f + n) ≤ 16 := nI_ge (a := 16) (by omega) (by omega)
    have d2 : (16 : Int32) < nI (f + n) := nI_lt (a := 16) (by omega) (by omega)
    rw [if_neg d1, if_neg d1, if_pos d2, if_neg (by decide)]
    exact ⟨⟨hv, trivial⟩, rfl, h1, h2, h3, h4, h5⟩
theorem and7 (n : Nat) (h : n < 2 ^ 31) : nI n &&& 7 = nI (n % 8) := pk_andN (by omega) 3 (by decide)
theorem rl_card : Ok_card Rl := by
  rintro i P C L line ⟨made, front, wait, rlen, tkn⟩ lens mkg qu rc F Fd G Z Zd T B K ⟨mask', key', cc', addr', ext', waits', stp', lat', flt, lte, works', chd, jmp', dev', okey, chn, cmd, plc, flg', cnt', rdy, tsz, rd, lns', onl⟩ b card filled keys line' one reg tk two hi h
  have hm := rl_mono i _ _ h
  have hQ := R_rd_to hm.2.2.2.2
  obtain ⟨h1, h2, h3, h4, h5⟩ := hm
  obtain ⟨g1, g2, g3, g4, g5, g6, g7, g8, g9, g10, g11, g12, g13, g14, g15⟩ := hQ
  subst g1
  obtain ⟨r, hr, rfl⟩ := rg_nI (n := 9) g2 (by omega)
  obtain ⟨fr, hfr, rfl⟩ := rg_nI (n := 8) g3 (by omega)
  have er : (nI r).toNatClampNeg = r := nI_clamp (by omega)
  have efr : (nI fr).toNatClampNeg = fr := nI_clamp (by omega)
  rw [er] at g4 g5 g6 g7
  rw [efr] at g6
  unfold s_X8_card f_X7_card f_X8_card f_X4_queueRecord
  simp only [q_let]
  by_cases c : r = 8
  · subst c
    rw [if_pos (show nI 8 = (8 : Int32) from rfl), if_pos (show nI 8 = (8 : Int32) from rfl), if_neg (show ¬ nI 8 < (8 : Int32) by decide)]
    exact ⟨trivial, rfl, h1, h2, h3, h4, h5⟩
  · have d1 : ¬ nI r = (8 : Int32) := fun e => c ((nI_eq (b := 8) (by omega) (by omega)).mp e)
    have d2 : nI r < (8 : Int32) := nI_lt (b := 8) (by omega) (by omega)
    rw [if_neg d1, if_neg d1, if_pos d2]
    have es : (nI fr + nI r) &&& 7 = nI ((fr + r) % 8) := by rw [nI_add, and7 _ (by omega)]
    have e1 : nI r + (1 : Int32) = nI (r + 1) := nI_1 r
    have eq16 : nI ((fr + r) % 8) * (16 : Int32) = nI ((fr + r) % 8 * 16) := by rw [show (16 : Int32) = nI 16 from rfl, pk_mul]
    dsimp only
    rw [e1]
    refine ⟨vp_in_nI (by omega) (by omega), rfl, R_st_up h1, R_pr_up h2, h3, R_ch_up h4, R_rd_of ?_⟩
    · rw [es, eq16, nI_clamp (by omega), nI_clamp (by omega), nI_clamp (by omega), show (0 : Int32).toNatClampNeg = 0 by decide, show (16 : Int32).toNatClampNeg = 16 by decide]
      have er1 : (nI (r + 1)).toNatClampNeg = r + 1 := nI_clamp (by omega)
      refine ⟨rfl, nI_rg (by omega) (by omega), g3, ?_, ?_, ?_, ?_, g8, g9, g10, g11, g12, g13, g14, sb_fitC g14 g15⟩
      · rw [er1, pk_us]
      · rw [er1]
        intro j hj
        unfold upd
        split
        · exact rg0 (by decide)
        · exact g5 j (by omega)
      · rw [er1, efr]
        intro j hj
        rw [pk_un (show j ≠ r + 1 by omega)]
        by_cases e : j = r
        · subst e
          rw [pk_us]
          refine ⟨g4, fun t ht => ?_⟩
          obtain ⟨f, hf, ef⟩ := rg_nI (n := 17) (g5 j (Nat.le_refl j)) (by omega)
          rw [ef] at g4
          rw [ef, nI_clamp (by omega)] at ht
          rw [pk_cpy_in (by omega) (by omega), show 0 + ((fr + j) % 8 * 16 + t - (fr + j) % 8 * 16) = t by omega]
          exact g7 t (by rw [g4, nI_clamp (by omega)]; exact ht)
        · obtain ⟨a1, a2⟩ := g6 j (by omega)
          have hne : (fr + j) % 8 ≠ (fr + r) % 8 := by omega
          rw [pk_un hne]
          refine ⟨a1, fun t ht => ?_⟩
          obtain ⟨f, hf, ef⟩ := rg_nI (n := 17) (g5 j (by omega)) (by omega)
          have ht2 := ht
          rw [ef, nI_clamp (by omega)] at ht2
          rw [pk_cpy_out (by omega)]
          exact a2 t ht
      · rw [show (0 : Int32).toNatClampNeg = 0 by decide]
        intro t ht
        exact absurd ht (Nat.not_lt_zero t)
