/-! the status: put away, loaded; an interruption; the timer -/
abbrev tR : Type := Bool × Bool × Bool × Int32 × Int32 × Int32 × Int32 × Int32 × Int32 × Int32 × Int32 × Int32 × Int32 × Int32 × Int32
def Wf (a1 a2 a3 a4 : Int32) : Prop := rg a1 32 ∧ rg a2 16 ∧ rg a3 4 ∧ rg a4 65536
theorem nI_a (a k : Nat) (x : Int32) (hx : x = nI k) : nI a + x = nI (a + k) := by rw [hx]; exact nI_add a k
theorem shr4 {a : Nat} (h : a < 2 ^ 31) : nI a >>> ((4 : Int32) &&& 31) = nI (a / 16) := pk_shrN h _ 4 (by decide)
theorem uB_putByte (B : rw_) (k : Nat) (v : Int32) (h : k < 2048) : uB (f_X6_putByte B (nI k) v) = upd (uB B) k (v &&& 255) := by
  rw [putByte_in B k v h, uB_put]
theorem and255 {x : Int32} (h : rg x 256) : x &&& 255 = x := and_small 8 (by decide) (by omega) h
theorem rg_lt {x : Int32} {n m : Int} (h : rg x n) (hm : n ≤ m) : rg x m := ⟨h.1, Int.lt_of_lt_of_le h.2 hm⟩
theorem load_eq (B : rw_) (q : Nat) (hq : q + 8 ≤ 2048) (a1 a2 a3 a4 : Int32) (e w : Bool) (s l f t : Int32) (R : tR) :
    ∃ b1 b2 b3 b4, f_X5_loadFrom B (nI q) = (b1, b2, b3, b4) ∧ f_X8_loadStatus (a1, a2, a3, a4, e, w, s, l, f, t, R) (uB B) (nI q) = (b1, b2, b3, b4, e, w, s, l, f, t, R) ∧ Wf b1 b2 b3 b4 ∧ s_X8_loadStatus (uB B) (nI q) := by
  have h0 := nB_lt B q
  have h1 := nB_lt B (q + 1)
  have h6 := nB_lt B (q + 6)
  have h7 := nB_lt B (q + 6 + 1)
  have e1 : nI q + (1 : Int32) = nI (q + 1) := nI_a q 1 1 (by decide)
  have e6 : nI q + (6 : Int32) = nI (q + 6) := nI_a q 6 6 (by decide)
  refine ⟨nI (nB B q % 2 ^ 5), nI (nB B (q + 1) / 16), nI (nB B (q + 1) % 2 ^ 2), nI (nB B (q + 6) * 256 + nB B (q + 6 + 1)), ?_, ?_, ⟨nI_rg (by omega) (by omega), nI_rg (by omega) (by omega), nI_rg (by omega) (by omega), nI_rg (by omega) (by omega)⟩, ?_⟩
  · unfold f_X5_loadFrom
    rw [e1, e6, byteAt_in B q (by omega), byteAt_in B (q + 1) (by omega), halfAt_eq B (q + 6) (by omega), half_nI B (by omega), uB_nB, uB_nB, shr4 (by omega), pk_andN (by omega) 5 (by decide), pk_andN (by omega) 2 (by decide)]
  · unfold f_X8_loadStatus q_let
    dsimp only
    rw [e1, e6, nI_clamp (by omega), nI_clamp (by omega), half_nI B (by omega), uB_nB, uB_nB, pk_andN (by omega) 5 (by decide), pk_andN (by omega) 2 (by decide), show (16 : Int32) = nI 16 by decide, pk_div (by omega) (by omega) (by omega)]
  · unfold s_X8_loadStatus q_let
    rw [e1, e6]
    exact ⟨vp_in_nI (by omega) (by omega), vp_in_nI (by omega) (by omega), vp_in_nI (by omega) (by omega), s_field_ok (uB B) (q + 6) 2 (by omega)⟩
theorem key_cc {a2 a3 : Int32} (h2 : rg a2 16) (h3 : rg a3 4) : rg (a2 * (16 : Int32) + a3) 256 ∧ (16 : Int32) * a2 + a3 = a2 * (16 : Int32) + a3 := by
  obtain ⟨x, hx, rfl⟩ := rg_nI (n := 16) h2 (by omega)
  obtain ⟨y, hy, rfl⟩ := rg_nI (n := 4) h3 (by omega)
  rw [show (16 : Int32) = nI 16 by decide, pk_mul, pk_mul, nI_add, nI_add]
  exact ⟨nI_rg (by omega) (by omega), by rw [Nat.mul_comm]⟩
theorem intr_eq (B : rw_) (p q : Nat) (hp : p + 8 ≤ 2048) (hq : q + 8 ≤ 2048) (c a1 a2 a3 a4 : Int32) (e w : Bool) (s l f t : Int32) (R : tR) (h : Wf a1 a2 a3 a4) :
    ∃ b1 b2 b3 b4 B', f_X3_interrupt (a1, a2, a3, a4) B (nI p) (nI q) c = ((b1, b2, b3, b4), B') ∧ f_X8_interrupt (a1, a2, a3, a4, e, w, s, l, f, t, R) (uB B) (nI p) (nI q) c = ((b1, b2, b3, b4, e, w, s, l, f, t, R), uB B') ∧ Wf b1 b2 b3 b4 ∧ s_X8_interrupt (a1, a2, a3, a4, e, w, s, l, f, t, R) (uB B) (nI p) (nI q) c := by
  obtain ⟨h1, h2, h3, h4⟩ := h
  obtain ⟨k1, k2⟩ := key_cc h2 h3
  have e1 : nI p + (1 : Int32) = nI (p + 1) := nI_a p 1 1 (by decide)
  have e2 : nI p + (2 : Int32) = nI (p + 2) := nI_a p 2 2 (by decide)
  have e4 : nI p + (4 : Int32) = nI (p + 4) := nI_a p 4 4 (by decide)
  have e6 : nI p + (6 : Int32) = nI (p + 6) := nI_a p 6 6 (by decide)
  obtain ⟨B1, hB1⟩ : ∃ B1, B1 = f_X6_putByte (f_X6_putByte B (nI p) a1) (nI (p + 1)) (a2 * (16 : Int32) + a3) := ⟨_, rfl⟩
  have u1 : upd (upd (uB B) p a1) (p + 1) (a2 * (16 : Int32) + a3) = uB B1 := by
    rw [hB1, uB_putByte _ _ _ (by omega), uB_putByte _ _ _ (by omega), and255 k1, and255 (rg_lt h1 (by omega))]
  obtain ⟨B2, hB2⟩ : ∃ B2, B2 = f_X6_putHalf B1 (nI (p + 2)) c := ⟨_, rfl⟩
  obtain ⟨B3, hB3⟩ : ∃ B3, B3 = f_X6_putHalf B2 (nI (p + 4)) 0 := ⟨_, rfl⟩
  obtain ⟨B4, hB4⟩ : ∃ B4, B4 = f_X6_putHalf B3 (nI (p + 6)) a4 := ⟨_, rfl⟩
  have u2 : f_X8_put (uB B1) (nI (p + 2)) c 2 = uB B2 := by rw [hB2, putHalf_eq B1 (p + 2) c (by omega)]
  have u3 : f_X8_put (uB B2) (nI (p + 4)) 0 2 = uB B3 := by rw [hB3, putHalf_eq B2 (p + 4) 0 (by omega)]
  have u4 : f_X8_put (uB B3) (nI (p + 6)) a4 2 = uB B4 := by rw [hB4, putHalf_eq B3 (p + 6) a4 (by omega)]
  obtain ⟨b1, b2, b3, b4, l1, l2, l3, l4⟩ := load_eq B4 q hq a1 a2 a3 a4 e w s l f t R
  refine ⟨b1, b2, b3, b4, B4, ?_, ?_, l3, ?_⟩
  · unfold f_X3_interrupt f_X5_putTo q_let
    dsimp only
    rw [e1, e2, e4, e6, ← hB1, ← hB2, ← hB3, ← hB4, l1]
  · unfold f_X8_interrupt q_let
    dsimp only
    rw [e1, e2, e4, e6, nI_clamp (by omega), nI_clamp (by omega), k2, u1, u2, u3, u4, l2]
  · unfold s_X8_interrupt q_let
    dsimp only
    rw [e1, e2, e4, e6, nI_clamp (by omega), nI_clamp (by omega), k2, u1, u2, u3, u4]
    exact ⟨vp_in_nI (by omega) (by omega), vp_in_nI (by omega) (by omega), s_put_ok _ (p + 2) c 2 (by omega), s_put_ok _ (p + 4) 0 2 (by omega), s_put_ok _ (p + 6) a4 2 (by omega), l4⟩
/-- a bit of the mask, both ways -/
theorem bit_eq {x : Int32} {n : Nat} (k : Nat) (m d : Int32) (hx : rg x 32) (hn : n = 2 ^ k) (hk : k < 5) (hm : m = nI n) (hd : d = nI n) : (x &&& m = 0) ↔ ¬ (x / d - x / d / (2 : Int32) * (2 : Int32)) = 1 := by
  obtain ⟨y, hy, rfl⟩ := rg_nI (n := 32) hx (by omega)
  subst hm hd hn
  have : ∀ k, k < 5 → ∀ y, y < 32 → ((nI y &&& nI (2 ^ k) = 0) ↔ ¬ (nI y / nI (2 ^ k) - nI y / nI (2 ^ k) / (2 : Int32) * (2 : Int32)) = 1) := by decide +kernel
  exact this k hk y hy
theorem allows_eq {a1 a2 a3 a4 : Int32} (hx : rg a1 32) (m : Int32) (h : a1 &&& m = 0 ↔ ¬ (a1 / m - a1 / m / (2 : Int32) * (2 : Int32)) = 1) : f_X5_allows (a1, a2, a3, a4) m = true ↔ (a1 / m - a1 / m / (2 : Int32) * (2 : Int32)) = 1 := by
  unfold f_X5_allows
  dsimp only
  by_cases c : a1 &&& m = 0
  · rw [if_pos c]
    exact ⟨fun q => (by cases q), fun q => absurd q (h.mp c)⟩
  · rw [if_neg c]
    exact ⟨fun _ => Classical.byContradiction fun q => c (h.mpr q), fun _ => rfl⟩
theorem al1 {a1 a2 a3 a4 : Int32} (hx : rg a1 32) : f_X5_allows (a1, a2, a3, a4) 1 = true ↔ (a1 - a1 / (2 : Int32) * (2 : Int32)) = 1 := by
  have := allows_eq (a2 := a2) (a3 := a3) (a4 := a4) hx 1 (bit_eq 0 1 1 hx rfl (by omega) (by decide) (by decide))
  rw [this]
  obtain ⟨y, hy, rfl⟩ := rg_nI (n := 32) hx (by omega)
  rw [show (nI y / (1 : Int32)) = nI y from (pk_div (d := 1) (by omega) (by omega) (by omega)).trans (by rw [Nat.div_one])]
theorem al2 {a1 a2 a3 a4 : Int32} (hx : rg a1 32) : f_X5_allows (a1, a2, a3, a4) 2 = true ↔ (a1 / (2 : Int32) - a1 / (2 : Int32) / (2 : Int32) * (2 : Int32)) = 1 := allows_eq hx 2 (bit_eq 1 2 2 hx rfl (by omega) (by decide) (by decide))
theorem al4 {a1 a2 a3 a4 : Int32} (hx : rg a1 32) : f_X5_allows (a1, a2, a3, a4) 4 = true ↔ (a1 / (4 : Int32) - a1 / (4 : Int32) / (2 : Int32) * (2 : Int32)) = 1 := allows_eq hx 4 (bit_eq 2 4 4 hx rfl (by omega) (by decide) (by decide))
theorem al8 {a1 a2 a3 a4 : Int32} (hx : rg a1 32) : f_X5_allows (a1, a2, a3, a4) 8 = true ↔ (a1 / (8 : Int32) - a1 / (8 : Int32) / (2 : Int32) * (2 : Int32)) = 1 := allows_eq hx 8 (bit_eq 3 8 8 hx rfl (by omega) (by decide) (by decide))
theorem al16 {a1 a2 a3 a4 : Int32} (hx : rg a1 32) : f_X5_allows (a1, a2, a3, a4) 16 = true ↔ (a1 / (16 : Int32) - a1 / (16 : Int32) / (2 : Int32) * (2 : Int32)) = 1 := allows_eq hx 16 (bit_eq 4 16 16 hx rfl (by omega) (by decide) (by decide))
/-- the timer -/
theorem timer_eq (B : rw_) : f_X6_wordAt B 80 = f_X8_field (uB B) 80 4 ∧ (∀ v, uB (f_X6_putWord B 80 v) = f_X8_put (uB B) 80 v 4) ∧ s_X8_field (uB B) 80 4 ∧ (∀ v, s_X8_put (uB B) 80 v 4) :=
  ⟨wordAt_eq B 80 (by omega), fun v => putWord_eq B 80 v (by omega), s_field_ok (uB B) 80 4 (by omega), fun v => s_put_ok (uB B) 80 v 4 (by omega)⟩
