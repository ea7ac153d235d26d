/-! a command taken: numbers, and the reference's indices -/
theorem next8 {p : Int32} (h : rg p 16777216) : (p + (8 : Int32)) &&& (16777215 : Int32) = (p + (8 : Int32)) - (p + (8 : Int32)) / (16777216 : Int32) * (16777216 : Int32) ∧ rg ((p + (8 : Int32)) - (p + (8 : Int32)) / (16777216 : Int32) * (16777216 : Int32)) 16777216 := by
  obtain ⟨a, ha, rfl⟩ := rg_nI (n := 16777216) h (by omega)
  rw [show (8 : Int32) = nI 8 from rfl, nI_add, show (16777216 : Int32) = nI 16777216 from rfl, pk_rem (by omega) (by omega) (by omega), pk_andN (by omega) 24 (by decide)]
  exact ⟨rfl, nI_rg (by omega) (by omega)⟩
theorem q_2040 : (2040 : Int32).toInt = 2040 := by decide
theorem holds8 {p : Int32} (h : rg p 16777216) : f_X6_holds p 8 = true ↔ p ≤ (2040 : Int32) := by
  obtain ⟨h0, h1⟩ := h
  have c1 : ¬ p < 0 := by rw [q_lt, q_0]; omega
  unfold f_X6_holds
  rw [if_neg c1, show (2048 : Int32) - 8 = 2040 by decide]
  by_cases c : (2040 : Int32) < p
  · rw [if_pos c]
    rw [q_lt, q_2040] at c
    rw [q_le, q_2040]
    exact ⟨fun q => (by cases q), fun q => absurd q (by omega)⟩
  · rw [if_neg c]
    rw [q_lt, q_2040] at c
    rw [q_le, q_2040]
    exact ⟨fun _ => by omega, fun _ => rfl⟩
theorem or8 {x y : Nat} (hx : x < 2 ^ 23) (hy : y < 256) : nI x <<< ((8 : Int32) &&& 31) ||| nI y = nI (x * 256 + y) := by
  rw [pk_shlN (n := x) _ 8 (by decide) (by omega)]
  apply Int32.toBitVec_inj.mp
  apply BitVec.eq_of_toNat_eq
  rw [Int32.toBitVec_or, BitVec.toNat_or, pk_tn (by omega), pk_tn (by omega), pk_tn (by omega)]
  have := Nat.shiftLeft_add_eq_or_of_lt (b := y) (i := 8) (by omega) x
  rw [Nat.shiftLeft_eq] at this
  exact this.symm
def nB (B : rw_) (k : Nat) : Nat := (uB B k).toBitVec.toNat % 256
theorem uB_nB (B : rw_) (k : Nat) : uB B k = nI (nB B k) := by
  unfold nB uB
  rw [pk_and (B k) 8 (by decide)]
  rw [pk_tn (by omega)]
  congr 1
  omega
theorem nB_lt (B : rw_) (k : Nat) : nB B k < 256 := Nat.mod_lt _ (by decide)
theorem half_nI (B : rw_) {a : Nat} (ha : a + 2 ≤ 2048) : f_X8_field (uB B) (nI a) 2 = nI (nB B a * 256 + nB B (a + 1)) := by
  have h1 := nB_lt B a
  have h2 := nB_lt B (a + 1)
  rw [field2 _ _ ha, uB_nB, uB_nB, or8 (by omega) (by omega)]
theorem field3_nI (B : rw_) {a : Nat} (ha : a + 3 ≤ 2048) : f_X8_field (uB B) (nI a) 3 = nI ((nB B a * 256 + nB B (a + 1)) * 256 + nB B (a + 2)) := by
  have h1 := nB_lt B a
  have h2 := nB_lt B (a + 1)
  have h3 := nB_lt B (a + 2)
  rw [field3 _ _ ha, uB_nB, uB_nB, uB_nB, or8 (by omega) (by omega), or8 (by omega) (by omega)]
theorem opD_eq (b : rw_) (a1 a2 a3 a4 : Int32) (e wt : Bool) (s l f t : Int32) (wk chd jmp : Bool) (dev okey chn cmd plc flg cnt rdy tsz rd lns onl : Int32) (tk card filled : rw_) : opD b (a1, a2, a3, a4, e, wt, s, l, f, t, wk, chd, jmp, dev, okey, chn, cmd, plc, flg, cnt, rdy, tsz, rd, lns, onl) tk card filled = if tsz = 0 then ((f_X8_over (a1, a2, a3, a4, e, wt, s, l, f, t, wk, chd, jmp, dev, okey, chn, cmd, plc, flg, cnt, rdy - (1 : Int32), tsz, 0, lns, onl) b).1, (f_X8_over (a1, a2, a3, a4, e, wt, s, l, f, t, wk, chd, jmp, dev, okey, chn, cmd, plc, flg, cnt, rdy - (1 : Int32), tsz, 0, lns, onl) b).2, card, filled, tk) else ((a1, a2, a3, a4, e, wt, s, l, f, t, wk, chd, jmp, dev, okey, chn, cmd, plc, flg, cnt, rdy - (1 : Int32), tsz, 0, lns, onl), b, card, filled, tk) := by
  unfold opD
  rw [f_X8_open_L107, if_pos (by decide)]
  unfold q_let
  dsimp only
theorem opS_ok (b : rw_) (o : tO) (filled : rw_) : opS b o filled := by
  unfold opS
  rw [s_X8_open_L107, if_pos (by decide)]
  unfold q_let
  split
  · exact s_over_ok _ _
  · trivial
theorem s_open_ok (o : tO) (b card filled tk : rw_) : s_X8_open o b card filled tk := by
  unfold s_X8_open q_let
  split
  · trivial
  · split
    · exact s_end_ok _ _ _ _
    · exact (op51 b card filled _ 16 0 tk _ rfl (by decide)).2 (opS_ok _ _ _)
theorem ite_ok {c : Prop} [Decidable c] {p q : Prop} (hp : p) (hq : q) : if c then p else q := by
  by_cases h : c
  · rw [if_pos h]; exact hp
  · rw [if_neg h]; exact hq
theorem s_take_ok (a1 a2 a3 a4 : Int32) (e wt : Bool) (s l f t : Int32) (wk chd jmp : Bool) (dev okey chn cmd plc flg cnt rdy tsz rd lns onl : Int32) (b card filled tk : rw_) (hp : rg chn 16777216) : s_X8_take (a1, a2, a3, a4, e, wt, s, l, f, t, wk, chd, jmp, dev, okey, chn, cmd, plc, flg, cnt, rdy, tsz, rd, lns, onl) b card filled tk := by
  unfold s_X8_take q_let
  dsimp only
  refine ite_ok (s_end_ok _ _ _ _) ?_
  by_cases c : chn ≤ (2040 : Int32)
  · rw [if_pos c]
    obtain ⟨a, ha, rfl⟩ := rg_nI (n := 16777216) hp (by omega)
    have h2 : a ≤ 2040 := (nI_leI (by omega) (by omega)).mp c
    have e1 : nI a + (1 : Int32) = nI (a + 1) := nI_1 a
    have e4 : nI a + (4 : Int32) = nI (a + 4) := nI_add a 4
    have e6 : nI a + (6 : Int32) = nI (a + 6) := nI_add a 6
    refine ⟨vp_in_nI (by omega) (by omega), by rw [e1]; exact s_field_ok _ _ 3 (by omega), by rw [e4]; exact vp_in_nI (by omega) (by omega), by rw [e6]; exact s_field_ok _ _ 2 (by omega), ?_⟩
    repeat' first | exact s_end_ok _ _ _ _ | exact s_open_ok _ _ _ _ _ | exact trivial | apply ite_ok
  · rw [if_neg c]
    exact s_end_ok _ _ _ _
theorem takeable_iff (works waits : Bool) (dev key place : Int32) (has dch jmp : Bool) (addr flg cnt un ck x : Int32) : f_X0_isTakeable (works, waits, dev, key, place, has, dch, jmp, addr, flg, cnt, un, ck) x = true ↔ ((x = 8 ∧ ¬ jmp = true) ∨ (¬ x = 8 ∧ ¬ cnt = 0 ∧ (dch = true ∨ x = (if dev = (1 : Int32) then (2 : Int32) else 1)))) := by
  by_cases h1 : x = 8 <;> by_cases h2 : cnt = 0 <;> by_cases h3 : dch = true <;> by_cases h4 : dev = 1 <;> by_cases h5 : jmp = true <;>
    simp [f_X0_isTakeable, f_X0_isReading, h1, h2, h3, h4, h5]
