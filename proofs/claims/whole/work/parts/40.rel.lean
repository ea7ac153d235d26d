/-! THE RELATION between the class's state and the reference's, and the calls that need no walk -/
theorem q_eq {x y : Int32} : x = y ↔ x.toInt = y.toInt := Int32.toInt_inj.symm
/-- a number in 0 .. n - 1 -/
def rg (x : Int32) (n : Int) : Prop := 0 ≤ x.toInt ∧ x.toInt < n
/-- a row of bytes, without sign -/
def uB (B : Nat → Int32) : Nat → Int32 := fun i => B i &&& 255
abbrev tP : Type := Bool × Int32 × Int32 × Int32 × Int32 × Int32 × Int32 × Int32 × Int32 × Int32
abbrev tCh : Type := Bool × Bool × Int32 × Int32 × Int32 × Bool × Bool × Bool × Int32 × Int32 × Int32 × Int32 × Int32
abbrev tT : Type := Int32 × Int32 × Int32 × Int32
abbrev tRd : Type := Int32 × Int32 × Int32 × Int32 × Int32
abbrev tO : Type := Int32 × Int32 × Int32 × Int32 × Bool × Bool × Int32 × Int32 × Int32 × Int32 × Bool × Bool × Bool × Int32 × Int32 × Int32 × Int32 × Int32 × Int32 × Int32 × Int32 × Int32 × Int32 × Int32 × Int32
abbrev rw_ : Type := Nat → Int32
/-- the status: equal, and in range -/
def R_st (T : tT) (o : tO) : Prop := match T, o with
  | (mask, key, cc, addr), (mask', key', cc', addr', _) => mask = mask' ∧ key = key' ∧ cc = cc' ∧ addr = addr' ∧ rg mask 32 ∧ rg key 16 ∧ rg cc 4 ∧ rg addr 65536
/-- the processor's own numbers -/
def R_pr (P : tP) (o : tO) : Prop := match P, o with
  | (ext, stp, _, lat, _), (_, _, _, _, ext', _, stp', lat', _) => ext = ext' ∧ stp = stp' ∧ lat = lat'
/-- registers, storage, keys -/
def R_mem (G B K b keys reg : rw_) : Prop := G = reg ∧ b = uB B ∧ K = keys ∧ ∀ i, rg (K i) 16
/-- the channel's state, while it works -/
def Q_wk (dev key place : Int32) (has dch jmp : Bool) (addr flg cnt : Int32) (chd jmp' : Bool) (okey chn cmd plc flg' cnt' tsz rd : Int32) : Prop :=
    (dev = 1 ∨ dev = 2) ∧ key = okey ∧ rg key 16 ∧ place = chn ∧ rg place 16777216 ∧ jmp = jmp' ∧ (has = true ↔ ¬ cmd = 0) ∧ (has = false → dch = chd ∧ (chd = true → dev = 1 → rd.toInt < tsz.toInt)) ∧
    (has = true → chd = false ∧ addr = plc ∧ rg addr 16777216 ∧ flg = flg' ∧ rg flg 256 ∧ cnt = cnt' ∧ 1 ≤ cnt.toInt ∧ cnt.toInt < 65536 ∧ (dev = 1 → rd.toInt < tsz.toInt))
def R_wk (C : tCh) (o : tO) : Prop := match C, o with
  | (_, _, dev, key, place, has, dch, jmp, addr, flg, cnt, _, _), (_, _, _, _, _, _, _, _, _, _, _, chd, jmp', _, okey, chn, cmd, plc, flg', cnt', _, tsz, rd, _, _) => Q_wk dev key place has dch jmp addr flg cnt chd jmp' okey chn cmd plc flg' cnt' tsz rd
def R_ch (i : Nat) (C : tCh) (L : Int32 × Int32) (line : rw_) (o : tO) (line' : rw_) : Prop := match C, L, o with
  | (works, waits, dev, _), (lns, len), (_, _, _, _, _, waits', _, _, _, _, works', _, _, dev', _, _, _, _, _, _, _, _, _, lns', onl) =>
    works = works' ∧ waits = waits' ∧ dev = dev' ∧ lns = lns' ∧ len = onl ∧ 0 ≤ onl.toInt ∧ onl.toInt ≤ 10 * i ∧ line' = uB line ∧ (works = true → R_wk C o)
/-- the records -/
def Q_rd (made front wait rlen tkn : Int32) (lens mkg qu rc : rw_) (rdy tsz rd : Int32) (card filled tk : rw_) : Prop :=
    wait = rdy ∧ rg rdy 9 ∧ rg front 8 ∧ made = filled rdy.toNatClampNeg ∧ (∀ j : Nat, j ≤ rdy.toNatClampNeg → rg (filled j) 17) ∧
    (∀ j : Nat, j < rdy.toNatClampNeg → lens ((front.toNatClampNeg + j) % 8) = filled j ∧ ∀ t : Nat, t < (filled j).toNatClampNeg → qu ((front.toNatClampNeg + j) % 8 * 16 + t) &&& 255 = card (16 * j + t)) ∧
    (∀ t : Nat, t < made.toNatClampNeg → mkg t &&& 255 = card (16 * rdy.toNatClampNeg + t)) ∧ rlen = tsz ∧ tkn = rd ∧ 0 ≤ rd.toInt ∧ rd.toInt ≤ tsz.toInt ∧ tsz.toInt ≤ 16 ∧ (∀ t : Nat, t < tsz.toNatClampNeg → rc t &&& 255 = tk t) ∧ sb_Fit mkg ∧ sb_Fit qu
def R_rd (Rd : tRd) (lens mkg qu rc : rw_) (o : tO) (card filled tk : rw_) : Prop := match Rd, o with
  | (made, front, wait, rlen, tkn), (_, _, _, _, _, _, _, _, _, _, _, _, _, _, _, _, _, _, _, _, rdy, tsz, rd, _, _) => Q_rd made front wait rlen tkn lens mkg qu rc rdy tsz rd card filled tk
def Rl (i : Nat) (cs : tC) (ms : tM) : Prop := match cs, ms with
  | (P, C, L, line, Rd, lens, mkg, qu, rc, _, _, G, _, _, T, B, K), (o, b, card, filled, keys, line', _, reg, tk, _) => R_st T o ∧ R_pr P o ∧ R_mem G B K b keys reg ∧ R_ch i C L line o line' ∧ R_rd Rd lens mkg qu rc o card filled tk
theorem rl_mono : Ok_mono Rl := by
  rintro i ⟨P, ⟨works, waits, dev, ch⟩, ⟨lns, len⟩, line, Rd, lens, mkg, qu, rc, F, Fd, G, Z, Zd, T, B, K⟩ ⟨o, b, card, filled, keys, line', one, reg, tk, two⟩ ⟨h1, h2, h3, h4, h5⟩
  refine ⟨h1, h2, h3, ?_, h5⟩
  obtain ⟨a1, a2, a3, a4, a5, a6, a7, a8⟩ := h4
  exact ⟨a1, a2, a3, a4, a5, a6, by omega, a8⟩
theorem rl_fit : Ok_fit Rl := by
  intro i P C L line Rd lens mkg qu rc F Fd G Z Zd T B K o b card filled keys line' one reg tk two h
  obtain ⟨-, -, -, -, h5⟩ := h
  exact ⟨h5.2.2.2.2.2.2.2.2.2.2.2.2.2.1, h5.2.2.2.2.2.2.2.2.2.2.2.2.2.2⟩
theorem rg0 {n : Int} (h : 0 < n) : rg 0 n := ⟨by decide, by rw [q_0]; exact h⟩
theorem rl_zero : Rl 0 zC zM := by
  refine ⟨⟨rfl, rfl, rfl, rfl, rg0 (by decide), rg0 (by decide), rg0 (by decide), rg0 (by decide)⟩, ⟨rfl, rfl, rfl⟩, ⟨rfl, funext fun _ => (by decide : (0 : Int32) = 0 &&& 255), rfl, fun i => rg0 (by decide)⟩, ⟨rfl, rfl, rfl, rfl, rfl, by decide, by decide, funext fun _ => (by decide : (0 : Int32) = 0 &&& 255), fun h => by cases h⟩, ?_⟩
  refine ⟨rfl, rg0 (by decide), rg0 (by decide), rfl, fun j _ => rg0 (by decide), fun j h => absurd h (by simp), fun t h => absurd h (by simp), rfl, rfl, by decide, by decide, by decide, fun t h => absurd h (by simp), sb_fit0, sb_fit0⟩
theorem rl_look : Ok_look Rl := by
  rintro i ⟨ext, stp, pin, lat, Pr⟩ ⟨works, waits, dev, ch⟩ ⟨lns, len⟩ line ⟨made, front, wait, rlen, tkn⟩ lens mkg qu rc F Fd G Z Zd T B K ⟨mask', key', cc', addr', ext', waits', stp', lat', flt, lte, works', chd, jmp', dev', okey, chn, cmd, plc, flg', cnt', rdy, tsz, rd, lns', onl⟩ b card filled keys line' one reg tk two v1 hi h
  refine ⟨trivial, ?_, rl_mono i _ _ h⟩
  obtain ⟨h1, h2, h3, h4, h5⟩ := h
  obtain ⟨rfl, rfl, rfl⟩ := h2
  obtain ⟨rfl, rfl, rfl, rfl, rfl, -⟩ := h4
  obtain ⟨rfl, -⟩ := h5
  unfold f_X7_look f_X8_look
  by_cases c0 : v1 = 0
  · subst c0; rfl
  by_cases c1 : v1 = 1
  · subst c1; rfl
  by_cases c2 : v1 = 2
  · subst c2; rfl
  by_cases c3 : v1 = 3
  · subst c3; rfl
  by_cases c4 : v1 = 4
  · subst c4; rfl
  by_cases c5 : v1 = 5
  · subst c5; rfl
  by_cases c6 : v1 = 6
  · subst c6; rfl
  by_cases c7 : v1 = 7
  · subst c7; rfl
  simp only [if_neg c0, if_neg c1, if_neg c2, if_neg c3, if_neg c4, if_neg c5, if_neg c6, if_neg c7, ite_self]
theorem rl_printed : Ok_printed Rl := by
  rintro i P ⟨works, waits, dev, ch⟩ ⟨lns, len⟩ line Rd lens mkg qu rc F Fd G Z Zd T B K ⟨mask', key', cc', addr', ext', waits', stp', lat', flt, lte, works', chd, jmp', dev', okey, chn, cmd, plc, flg', cnt', rdy, tsz, rd, lns', onl⟩ b card filled keys line' one reg tk two v1 hi h
  have hm := rl_mono i _ _ h
  obtain ⟨h1, h2, h3, h4, h5⟩ := h
  obtain ⟨rfl, rfl, rfl, rfl, rfl, -, -, hl, -⟩ := h4
  refine ⟨?_, ?_, hm⟩
  · unfold s_X8_printed
    split
    · trivial
    · rename_i c1
      split
      · trivial
      · rename_i c2
        split
        · rw [q_lt] at c1 c2
          rw [q_0] at c1
          have : (31 : Int32).toInt = 31 := by decide
          exact vp_in_iff.mpr ⟨by omega, by omega⟩
        · trivial
  · unfold f_X7_printed f_X2_byteOfLine f_X8_printed
    rw [hl]
    by_cases c1 : v1 < 0
    · rw [if_pos c1, if_pos c1]
    rw [if_neg c1, if_neg c1]
    have e31 : (31 : Int32).toInt = 31 := by decide
    by_cases c2 : (31 : Int32) < v1
    · rw [if_pos c2]
      have c3 : (32 : Int32) ≤ v1 := by rw [q_le, q_32]; rw [q_lt, e31] at c2; omega
      rw [if_pos c3]
      split <;> rfl
    · rw [if_neg c2]
      have c3 : ¬ (32 : Int32) ≤ v1 := by rw [q_le, q_32]; rw [q_lt, e31] at c2; omega
      rw [if_neg c3]
      by_cases c4 : v1 < len
      · rw [if_pos c4, if_neg (q_lt_nle c4)]
        rfl
      · have c5 : len ≤ v1 := by rw [q_lt] at c4; rw [q_le]; omega
        rw [if_neg c4, if_pos c5]
/-! what a part of the relation does not look at may change -/
theorem R_st_up {T : tT} {a b c d : Int32} {r r' : Bool × Bool × Int32 × Int32 × Int32 × Int32 × Bool × Bool × Bool × Int32 × Int32 × Int32 × Int32 × Int32 × Int32 × Int32 × Int32 × Int32 × Int32 × Int32 × Int32} (h : R_st T (a, b, c, d, r)) : R_st T (a, b, c, d, r') := by
  obtain ⟨t1, t2, t3, t4⟩ := T
  obtain ⟨h1, h2, h3, h4, h5, h6, h7, h8⟩ := h
  exact ⟨h1, h2, h3, h4, h5, h6, h7, h8⟩
theorem R_pr_up {P : tP} {a b c d a' b' c' d' : Int32} {e w w' : Bool} {s l : Int32} {r r' : Int32 × Int32 × Bool × Bool × Bool × Int32 × Int32 × Int32 × Int32 × Int32 × Int32 × Int32 × Int32 × Int32 × Int32 × Int32 × Int32} (h : R_pr P (a, b, c, d, e, w, s, l, r)) : R_pr P (a', b', c', d', e, w', s, l, r') := by
  obtain ⟨p1, p2, p3, p4, p5⟩ := P
  obtain ⟨h1, h2, h3⟩ := h
  exact ⟨h1, h2, h3⟩
theorem R_ch_up {i : Nat} {C : tCh} {L : Int32 × Int32} {line line' : rw_} {a1 a2 a3 a4 b1 b2 b3 b4 : Int32} {e e' : Bool} {wt : Bool} {s l f t s' l' f' t' : Int32} {wk chd jmp : Bool} {dev okey chn cmd plc flg cnt rdy rdy' tsz rd lns onl : Int32}
    (h : R_ch i C L line (a1, a2, a3, a4, e, wt, s, l, f, t, wk, chd, jmp, dev, okey, chn, cmd, plc, flg, cnt, rdy, tsz, rd, lns, onl) line') : R_ch i C L line (b1, b2, b3, b4, e', wt, s', l', f', t', wk, chd, jmp, dev, okey, chn, cmd, plc, flg, cnt, rdy', tsz, rd, lns, onl) line' := by
  obtain ⟨c1, c2, c3, c4, c5, c6, c7, c8, c9, c10, c11, c12, c13⟩ := C
  obtain ⟨l1, l2⟩ := L
  obtain ⟨h1, h2, h3, h4, h5, h6, h7, h8, h9⟩ := h
  refine ⟨h1, h2, h3, h4, h5, h6, h7, h8, fun hw => ?_⟩
  have k : Q_wk c3 c4 c5 c6 c7 c8 c9 c10 c11 chd jmp okey chn cmd plc flg cnt tsz rd := h9 hw
  exact k
theorem R_rd_of {made front wait rlen tkn : Int32} {lens mkg qu rc : rw_} {a1 a2 a3 a4 : Int32} {e wt : Bool} {s l f t : Int32} {wk chd jmp : Bool} {dev okey chn cmd plc flg cnt rdy tsz rd lns onl : Int32} {card filled tk : rw_} (h : Q_rd made front wait rlen tkn lens mkg qu rc rdy tsz rd card filled tk) :
    R_rd (made, front, wait, rlen, tkn) lens mkg qu rc (a1, a2, a3, a4, e, wt, s, l, f, t, wk, chd, jmp, dev, okey, chn, cmd, plc, flg, cnt, rdy, tsz, rd, lns, onl) card filled tk := h
theorem R_rd_to {made front wait rlen tkn : Int32} {lens mkg qu rc : rw_} {a1 a2 a3 a4 : Int32} {e wt : Bool} {s l f t : Int32} {wk chd jmp : Bool} {dev okey chn cmd plc flg cnt rdy tsz rd lns onl : Int32} {card filled tk : rw_} (h : R_rd (made, front, wait, rlen, tkn) lens mkg qu rc (a1, a2, a3, a4, e, wt, s, l, f, t, wk, chd, jmp, dev, okey, chn, cmd, plc, flg, cnt, rdy, tsz, rd, lns, onl) card filled tk) : Q_rd made front wait rlen tkn lens mkg qu rc rdy tsz rd card filled tk := h
