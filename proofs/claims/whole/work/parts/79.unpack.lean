/-! a packed number read from storage, both sides -/
def hb (B : rw_) (p n k : Nat) : Nat := if k % 2 = 0 then nB B (p + n - 1 - k / 2) % 16 else nB B (p + n - 1 - k / 2) / 16
theorem hb_lt (B : rw_) (p n k : Nat) : hb B p n k < 16 := by
  unfold hb
  have := nB_lt B (p + n - 1 - k / 2)
  split <;> omega
theorem last_eq (p n : Nat) (hn : 1 ≤ n) : nI p + nI n - (1 : Int32) = nI (p + n - 1) := by rw [nI_add]; exact pk_sub (b := 1) (by omega)
theorem half_ix (p n k : Nat) (hk : k < 2 * n) (hp : p + n ≤ 2048) : nI p + nI n - (1 : Int32) - nI k / (2 : Int32) = nI (p + n - 1 - k / 2) := by
  rw [last_eq p n (by omega), show nI k / (2 : Int32) = nI (k / 2) from pk_div (d := 2) (by omega) (by omega) (by omega)]
  exact pk_sub (by omega)
theorem half_c (B : rw_) (p n k : Nat) (hk : k < 2 * n) (hp : p + n ≤ 2048) : f_X1_halfByte B (nI p + nI n - (1 : Int32)) (nI k) = nI (hb B p n k) := by
  have hlt := nB_lt B (p + n - 1 - k / 2)
  unfold f_X1_halfByte hb
  rw [half_ix p n k hk hp, byteAt_in B _ (by omega), uB_nB, show nI k - nI k / (2 : Int32) * (2 : Int32) = nI (k % 2) from pk_rem (d := 2) (by omega) (by omega) (by omega), shr4 (by omega), pk_andN (by omega) 4 (by decide)]
  have e : nI (k % 2) = 0 ↔ k % 2 = 0 := nI_eq (b := 0) (by omega) (by omega)
  by_cases c : k % 2 = 0
  · rw [if_pos (e.mpr c), if_pos c]
  · rw [if_neg (fun q => c (e.mp q)), if_neg c]
theorem half_r (B : rw_) (p n k : Nat) (hk : k < 2 * n) (hp : p + n ≤ 2048) : f_X8_half (uB B) (nI p) (nI n) (nI k) = nI (hb B p n k) ∧ s_X8_half (nI p) (nI n) (nI k) := by
  have hlt := nB_lt B (p + n - 1 - k / 2)
  unfold f_X8_half s_X8_half hb
  rw [half_ix p n k hk hp, nI_clamp (by omega), uB_nB, show nI k - nI k / (2 : Int32) * (2 : Int32) = nI (k % 2) from pk_rem (d := 2) (by omega) (by omega) (by omega), show nI (nB B (p + n - 1 - k / 2)) - nI (nB B (p + n - 1 - k / 2)) / (16 : Int32) * (16 : Int32) = nI (nB B (p + n - 1 - k / 2) % 16) from pk_rem (d := 16) (by omega) (by omega) (by omega), show nI (nB B (p + n - 1 - k / 2)) / (16 : Int32) = nI (nB B (p + n - 1 - k / 2) / 16) from pk_div (d := 16) (by omega) (by omega) (by omega)]
  have e : nI (k % 2) = 0 ↔ k % 2 = 0 := nI_eq (b := 0) (by omega) (by omega)
  refine ⟨?_, vp_in_nI (by omega) (by omega)⟩
  by_cases c : k % 2 = 0
  · rw [if_pos (e.mpr c), if_pos c]
  · rw [if_neg (fun q => c (e.mp q)), if_neg c]
def dig (B : rw_) (p n k : Nat) : Nat := if k < 2 * n - 1 then hb B p n (k + 1) else 0
theorem dig_lt (B : rw_) (p n k : Nat) : dig B p n k < 16 := by
  unfold dig
  split
  · exact hb_lt B p n (k + 1)
  · omega
/-- the sign is one that there is, and so are the digits -/
def valid (B : rw_) (p n : Nat) : Prop := 9 < hb B p n 0 ∧ ∀ j, j < 32 → dig B p n j ≤ 9
theorem two_n (n : Nat) (hn : 1 ≤ n) : (2 : Int32) * nI n - (1 : Int32) = nI (2 * n - 1) := by
  rw [show (2 : Int32) * nI n = nI (2 * n) from pk_mul 2 n]
  exact pk_sub (b := 1) (by omega)
theorem tf_loop (o : Bool) (B : rw_) (p n : Nat) (hn1 : 1 ≤ n) (hn : n ≤ 16) (hp : p + n ≤ 2048) : ∀ (d k fuel : Nat) (D : rw_), k + d = 32 → d < fuel → (∀ j, j < k → D j = nI (dig B p n j)) →
    ((∀ j, k ≤ j → j < 32 → dig B p n j ≤ 9) → ∃ D', f_X1_takeFrom_L10 o B (nI p) (nI n) fuel D (nI k) = (decide (9 < hb B p n 0), (decide (hb B p n 0 = 13 ∨ hb B p n 0 = 11) && !(f_X1_isZero D' 32)), D') ∧ ∀ j, j < 32 → D' j = nI (dig B p n j)) ∧
    ((¬ ∀ j, k ≤ j → j < 32 → dig B p n j ≤ 9) → ∃ ng D', f_X1_takeFrom_L10 o B (nI p) (nI n) fuel D (nI k) = (false, ng, D')) := by
  intro d
  induction d with
  | zero =>
    intro k fuel D h1 h2 h3
    obtain ⟨f, rfl⟩ : ∃ f, fuel = f + 1 := ⟨fuel - 1, by omega⟩
    refine ⟨fun _ => ⟨D, ?_, fun j hj => h3 j (by omega)⟩, fun q => absurd (fun j h4 h5 => by omega) q⟩
    have e0 : f_X1_halfByte B (nI p + nI n - (1 : Int32)) 0 = nI (hb B p n 0) := half_c B p n 0 (by omega) hp
    have hl := hb_lt B p n 0
    obtain ⟨h, hh⟩ : ∃ h, h = hb B p n 0 := ⟨_, rfl⟩
    rw [f_X1_takeFrom_L10, if_pos (show (32 : Int32) ≤ nI k from nI_le (a := 32) (by omega) (by omega)), e0]
    rw [← hh] at hl ⊢
    have e13 : nI h = (13 : Int32) ↔ h = 13 := nI_eq (b := 13) (by omega) (by omega)
    have e11 : nI h = (11 : Int32) ↔ h = 11 := nI_eq (b := 11) (by omega) (by omega)
    have e9 : nI h ≤ (9 : Int32) ↔ h ≤ 9 := nI_leI (b := 9) (by omega) (by omega)
    by_cases c13 : h = 13
    · subst c13
      by_cases cz : f_X1_isZero D 32 = true
      · rw [if_pos (by decide), if_pos cz, if_neg (by decide), cz]; rfl
      · rw [if_pos (by decide), if_neg cz, if_neg (by decide)]
        rw [Bool.not_eq_true] at cz
        rw [cz]; rfl
    · rw [if_neg (fun q => c13 (e13.mp q))]
      by_cases c11 : h = 11
      · subst c11
        by_cases cz : f_X1_isZero D 32 = true
        · rw [if_pos (by decide), if_pos cz, if_neg (by decide), cz]; rfl
        · rw [if_pos (by decide), if_neg cz, if_neg (by decide)]
          rw [Bool.not_eq_true] at cz
          rw [cz]; rfl
      · rw [if_neg (fun q => c11 (e11.mp q)), decide_eq_false (show ¬ (h = 13 ∨ h = 11) by omega), Bool.false_and]
        by_cases c9 : h ≤ 9
        · rw [if_pos (e9.mpr c9), decide_eq_false (by omega)]
        · rw [if_neg (fun q => c9 (e9.mp q)), decide_eq_true (by omega)]
  | succ d ih =>
    intro k fuel D h1 h2 h3
    obtain ⟨f, rfl⟩ : ∃ f, fuel = f + 1 := ⟨fuel - 1, by omega⟩
    have hdl := dig_lt B p n k
    have e9 : nI (dig B p n k) ≤ (9 : Int32) ↔ dig B p n k ≤ 9 := nI_leI (b := 9) (by omega) (by omega)
    obtain ⟨i1, i2⟩ := ih (k + 1) f (upd D k (nI (dig B p n k))) (by omega) (by omega) (fun j hj => by
      by_cases z : j = k
      · rw [z, pk_us]
      · rw [pk_un z]; exact h3 j (by omega))
    have hstep : f_X1_takeFrom_L10 o B (nI p) (nI n) (f + 1) D (nI k) = if nI (dig B p n k) ≤ (9 : Int32) then f_X1_takeFrom_L10 o B (nI p) (nI n) f (upd D k (nI (dig B p n k))) (nI (k + 1)) else (false, o, upd D k (nI (dig B p n k))) := by
      rw [f_X1_takeFrom_L10, if_neg (show ¬ (32 : Int32) ≤ nI k from nI_ge (b := 32) (by omega) (by omega)), nI_clamp (by omega), show nI k + (1 : Int32) = nI (k + 1) from nI_1 k, two_n n hn1]
      by_cases c : 2 * n - 1 ≤ k
      · have : dig B p n k = 0 := by unfold dig; rw [if_neg (by omega)]
        rw [if_pos (nI_le c (by omega)), this, pk_us]
        rfl
      · have : dig B p n k = hb B p n (k + 1) := by unfold dig; rw [if_pos (by omega)]
        rw [if_neg (nI_ge (by omega) (by omega)), half_c B p n (k + 1) (by omega) hp, this, pk_us]
    rw [hstep]
    by_cases c9 : dig B p n k ≤ 9
    · rw [if_pos (e9.mpr c9)]
      have hh : (∀ j, k ≤ j → j < 32 → dig B p n j ≤ 9) ↔ (∀ j, k + 1 ≤ j → j < 32 → dig B p n j ≤ 9) := by
        refine ⟨fun q j h4 h5 => q j (by omega) h5, fun q j h4 h5 => ?_⟩
        by_cases z : j = k
        · rw [z]; exact c9
        · exact q j (by omega) h5
      rw [hh]
      exact ⟨i1, i2⟩
    · rw [if_neg (fun q => c9 (e9.mp q))]
      exact ⟨fun q => absurd (q k (by omega) (by omega)) c9, fun _ => ⟨_, _, rfl⟩⟩

theorem unA_step (b : rw_) (p n x : Int32) (f : Nat) (one : rw_) (ok : Bool) (hx : ¬ (40 : Int32) ≤ x) (v : Int32) (hv : v = if (2 : Int32) * n - (1 : Int32) ≤ x then 0 else f_X8_half b p n (x + (1 : Int32))) (ng : Bool) (hng : ng = true ↔ (f_X8_half b p n 0 = 11 ∨ f_X8_half b p n 0 = 13)) :
    f_X8_unpackA_L26 b p n (f + 1) one x ok = f_X8_unpackA_L26 b p n f (upd one x.toNatClampNeg (if ng = true then -v else v)) (x + (1 : Int32)) (ok && !decide ((10 : Int32) ≤ v)) ∧
    ((¬ (2 : Int32) * n - (1 : Int32) ≤ x → s_X8_half p n (x + (1 : Int32))) → s_X8_unpackA_L26 b p n f (upd one x.toNatClampNeg (if ng = true then -v else v)) (x + (1 : Int32)) (ok && !decide ((10 : Int32) ≤ v)) → s_X8_unpackA_L26 b p n (f + 1) one x ok) := by
  rw [f_X8_unpackA_L26, s_X8_unpackA_L26, if_neg hx, if_neg hx]
  by_cases c1 : (2 : Int32) * n - (1 : Int32) ≤ x
  · rw [if_pos c1] at hv
    subst hv
    rw [if_pos c1, if_pos c1]
    by_cases c11 : f_X8_half b p n 0 = 11
    · have hg := hng.mpr (Or.inl c11)
      subst hg
      cases ok
      · simp only [if_pos c11, if_neg (show ¬ (false = true) by decide), if_true, Bool.false_and]; exact ⟨trivial, fun _ q => q⟩
      · simp only [if_pos c11, if_true, Bool.true_and, show (!decide ((10 : Int32) ≤ 0)) = true by decide]; exact ⟨trivial, fun _ q => q⟩
    · by_cases c13 : f_X8_half b p n 0 = 13
      · have hg := hng.mpr (Or.inr c13)
        subst hg
        cases ok
        · simp only [if_neg c11, if_pos c13, if_neg (show ¬ (false = true) by decide), if_true, Bool.false_and]; exact ⟨trivial, fun _ q => q⟩
        · simp only [if_neg c11, if_pos c13, if_true, Bool.true_and, show (!decide ((10 : Int32) ≤ 0)) = true by decide]; exact ⟨trivial, fun _ q => q⟩
      · have hg : ng = false := by cases ng with | false => rfl | true => exact absurd (hng.mp rfl) (fun q => q.elim c11 c13)
        subst hg
        cases ok
        · simp only [if_neg c11, if_neg c13, if_neg (show ¬ (false = true) by decide), Bool.false_and]; exact ⟨trivial, fun _ q => q⟩
        · simp only [if_neg c11, if_neg c13, if_neg (show ¬ (false = true) by decide), if_true, Bool.true_and, show (!decide ((10 : Int32) ≤ 0)) = true by decide]; exact ⟨trivial, fun _ q => q⟩
  · rw [if_neg c1] at hv
    rw [if_neg c1, if_neg c1, ← hv]
    have hcc : (!decide ((10 : Int32) ≤ v)) = if (10 : Int32) ≤ v then false else true := by
      by_cases z : (10 : Int32) ≤ v
      · rw [if_pos z, decide_eq_true z]; rfl
      · rw [if_neg z, decide_eq_false z]; rfl
    rw [hcc]
    by_cases c11 : f_X8_half b p n 0 = 11
    · have hg := hng.mpr (Or.inl c11)
      subst hg
      cases ok
      · simp only [if_pos c11, if_neg (show ¬ (false = true) by decide), if_true, Bool.false_and]; exact ⟨trivial, fun q1 q2 => ⟨q1 c1, q2⟩⟩
      · by_cases z : (10 : Int32) ≤ v
        · simp only [if_pos c11, if_true, if_pos z, Bool.true_and]; exact ⟨trivial, fun q1 q2 => ⟨q1 c1, q2⟩⟩
        · simp only [if_pos c11, if_true, if_neg z, Bool.true_and]; exact ⟨trivial, fun q1 q2 => ⟨q1 c1, q2⟩⟩
    · by_cases c13 : f_X8_half b p n 0 = 13
      · have hg := hng.mpr (Or.inr c13)
        subst hg
        cases ok
        · simp only [if_neg c11, if_pos c13, if_neg (show ¬ (false = true) by decide), if_true, Bool.false_and]; exact ⟨trivial, fun q1 q2 => ⟨q1 c1, q2⟩⟩
        · by_cases z : (10 : Int32) ≤ v
          · simp only [if_neg c11, if_pos c13, if_true, if_pos z, Bool.true_and]; exact ⟨trivial, fun q1 q2 => ⟨q1 c1, q2⟩⟩
          · simp only [if_neg c11, if_pos c13, if_true, if_neg z, Bool.true_and]; exact ⟨trivial, fun q1 q2 => ⟨q1 c1, q2⟩⟩
      · have hg : ng = false := by cases ng with | false => rfl | true => exact absurd (hng.mp rfl) (fun q => q.elim c11 c13)
        subst hg
        cases ok
        · simp only [if_neg c11, if_neg c13, if_neg (show ¬ (false = true) by decide), Bool.false_and]; exact ⟨trivial, fun q1 q2 => ⟨q1 c1, q2⟩⟩
        · by_cases z : (10 : Int32) ≤ v
          · simp only [if_neg c11, if_neg c13, if_neg (show ¬ (false = true) by decide), if_true, if_pos z, Bool.true_and]; exact ⟨trivial, fun q1 q2 => ⟨q1 c1, q2⟩⟩
          · simp only [if_neg c11, if_neg c13, if_neg (show ¬ (false = true) by decide), if_true, if_neg z, Bool.true_and]; exact ⟨trivial, fun q1 q2 => ⟨q1 c1, q2⟩⟩
theorem unA_loop (B : rw_) (p n : Nat) (hn1 : 1 ≤ n) (hn : n ≤ 16) (hp : p + n ≤ 2048) (ng : Bool) (hng : ng = true ↔ (hb B p n 0 = 13 ∨ hb B p n 0 = 11)) : ∀ (d k fuel : Nat) (one : rw_) (ok : Bool), k + d = 40 → d < fuel →
    ∃ ok' one', f_X8_unpackA_L26 (uB B) (nI p) (nI n) fuel one (nI k) ok = (ok', one') ∧ (ok' = true ↔ ok = true ∧ ∀ j, k ≤ j → j < 40 → dig B p n j ≤ 9) ∧ (∀ j, j < k → one' j = one j) ∧ (∀ j, k ≤ j → j < 40 → one' j = iI (sg ng * dig B p n j)) ∧ s_X8_unpackA_L26 (uB B) (nI p) (nI n) fuel one (nI k) ok := by
  intro d
  induction d with
  | zero =>
    intro k fuel one ok h1 h2
    obtain ⟨f, rfl⟩ : ∃ f, fuel = f + 1 := ⟨fuel - 1, by omega⟩
    refine ⟨ok, one, ?_, ⟨fun q => ⟨q, fun j h3 h4 => by omega⟩, fun q => q.1⟩, fun j _ => rfl, fun j h3 h4 => by omega, ?_⟩
    · rw [f_X8_unpackA_L26, if_pos (show (40 : Int32) ≤ nI k from nI_le (a := 40) (by omega) (by omega))]
    · rw [s_X8_unpackA_L26, if_pos (show (40 : Int32) ≤ nI k from nI_le (a := 40) (by omega) (by omega))]
      trivial
  | succ d ih =>
    intro k fuel one ok h1 h2
    obtain ⟨f, rfl⟩ : ∃ f, fuel = f + 1 := ⟨fuel - 1, by omega⟩
    have hdl := dig_lt B p n k
    have h0l := hb_lt B p n 0
    have e1 : nI k + (1 : Int32) = nI (k + 1) := nI_1 k
    have h0 : f_X8_half (uB B) (nI p) (nI n) 0 = nI (hb B p n 0) := (half_r B p n 0 (by omega) hp).1
    have hv : nI (dig B p n k) = if (2 : Int32) * nI n - (1 : Int32) ≤ nI k then 0 else f_X8_half (uB B) (nI p) (nI n) (nI k + (1 : Int32)) := by
      rw [two_n n hn1, e1]
      unfold dig
      by_cases c : k < 2 * n - 1
      · rw [if_pos c, if_neg (nI_ge (by omega) (by omega)), (half_r B p n (k + 1) (by omega) hp).1]
      · rw [if_neg c, if_pos (nI_le (by omega) (by omega))]; rfl
    have hng2 : ng = true ↔ (f_X8_half (uB B) (nI p) (nI n) 0 = 11 ∨ f_X8_half (uB B) (nI p) (nI n) 0 = 13) := by
      rw [hng, h0, show (11 : Int32) = nI 11 by decide, show (13 : Int32) = nI 13 by decide, nI_eq (by omega) (by omega), nI_eq (by omega) (by omega)]
      exact Or.comm
    obtain ⟨s1, s2⟩ := unA_step (uB B) (nI p) (nI n) (nI k) f one ok (nI_ge (b := 40) (by omega) (by omega)) (nI (dig B p n k)) hv ng hng2
    rw [nI_clamp (by omega), e1] at s1 s2
    obtain ⟨ok', one', i1, i2, i3, i4, i5⟩ := ih (k + 1) f (upd one k (if ng = true then -nI (dig B p n k) else nI (dig B p n k))) (ok && !decide ((10 : Int32) ≤ nI (dig B p n k))) (by omega) (by omega)
    have e10 : (10 : Int32) ≤ nI (dig B p n k) ↔ 10 ≤ dig B p n k := nI_leI (a := 10) (by omega) (by omega)
    refine ⟨ok', one', by rw [s1]; exact i1, ?_, fun j hj => ?_, fun j h3 h4 => ?_, s2 (fun c => ?_) i5⟩
    · rw [i2, Bool.and_eq_true, Bool.not_eq_true', decide_eq_false_iff_not, e10]
      refine ⟨fun q => ⟨q.1.1, fun j h3 h4 => ?_⟩, fun q => ⟨⟨q.1, ?_⟩, fun j h3 h4 => q.2 j (by omega) h4⟩⟩
      · by_cases z : j = k
        · rw [z]; have := q.1.2; omega
        · exact q.2 j (by omega) h4
      · have := q.2 k (by omega) (by omega); omega
    · rw [i3 j (by omega), pk_un (by omega)]
    · by_cases z : j = k
      · subst z
        rw [i3 j (by omega), pk_us]
        cases ng
        · rw [if_neg (by decide), ← iI_n, show sg false = 1 from rfl, Int.one_mul]
        · rw [if_pos rfl, ← iI_n, iI_neg, show sg true = -1 from rfl]
          congr 1
          omega
      · exact i4 j (by omega) h4
    · rw [two_n n hn1] at c
      have c2 : k < 2 * n - 1 := Classical.byContradiction fun q => c (nI_le (by omega) (by omega))
      exact (half_r B p n (k + 1) (by omega) hp).2
theorem unA_eq (B : rw_) (p n : Nat) (hn1 : 1 ≤ n) (hn : n ≤ 16) (hp : p + n ≤ 2048) (ng : Bool) (hng : ng = true ↔ (hb B p n 0 = 13 ∨ hb B p n 0 = 11)) (one : rw_) :
    ∃ ok one', f_X8_unpackA (uB B) one (nI p) (nI n) = (ok, one') ∧ (ok = true ↔ valid B p n) ∧ (∀ j, j < 40 → one' j = iI (sg ng * dig B p n j)) ∧ s_X8_unpackA (uB B) one (nI p) (nI n) := by
  obtain ⟨h0, s0⟩ : f_X8_half (uB B) (nI p) (nI n) 0 = nI (hb B p n 0) ∧ s_X8_half (nI p) (nI n) 0 := half_r B p n 0 (by omega) hp
  have h0l := hb_lt B p n 0
  have e9 : nI (hb B p n 0) ≤ (9 : Int32) ↔ hb B p n 0 ≤ 9 := nI_leI (b := 9) (by omega) (by omega)
  have hd32 : ∀ j, 31 ≤ j → dig B p n j = 0 := fun j hj => by unfold dig; rw [if_neg (by omega)]
  unfold f_X8_unpackA s_X8_unpackA
  rw [h0]
  by_cases c : hb B p n 0 ≤ 9
  · rw [if_pos (e9.mpr c), if_pos (e9.mpr c)]
    obtain ⟨ok', one', i1, i2, -, i4, i5⟩ := unA_loop B p n hn1 hn hp ng hng 40 0 41 one false (by omega) (by omega)
    refine ⟨ok', one', i1, i2.trans ⟨fun q => (by cases q.1), fun q => absurd q.1 (by omega)⟩, fun j hj => i4 j (by omega) hj, s0, i5⟩
  · rw [if_neg (fun q => c (e9.mp q)), if_neg (fun q => c (e9.mp q))]
    obtain ⟨ok', one', i1, i2, -, i4, i5⟩ := unA_loop B p n hn1 hn hp ng hng 40 0 41 one true (by omega) (by omega)
    refine ⟨ok', one', i1, i2.trans ⟨fun q => ⟨by omega, fun j hj => q.2 j (by omega) (by omega)⟩, fun q => ⟨rfl, fun j _ hj => ?_⟩⟩, fun j hj => i4 j (by omega) hj, s0, i5⟩
    by_cases z : j < 32
    · exact q.2 j z
    · rw [hd32 j (by omega)]; omega
/-- both readings -/
theorem rdA (o : Bool) (D B : rw_) (p n : Nat) (hn1 : 1 ≤ n) (hn : n ≤ 16) (hp : p + n ≤ 2048) (one : rw_) :
    ∃ (ok : Bool) (ng : Bool) (D' one' : rw_), f_X1_takeFrom o D B (nI p) (nI n) = (ok, ng, D') ∧ f_X8_unpackA (uB B) one (nI p) (nI n) = (ok, one') ∧ s_X8_unpackA (uB B) one (nI p) (nI n) ∧
      (ok = true → ∃ d : Nat → Int, (∀ k, 0 ≤ d k ∧ d k ≤ 9) ∧ (∀ k, 31 ≤ k → d k = 0) ∧ (∀ k, 2 * n - 1 ≤ k → d k = 0) ∧ (∀ k, k < 32 → D' k = iI (d k)) ∧ (∀ k, k < 40 → one' k = iI (sg ng * d k)) ∧ (ng = true → ∃ k, k < 31 ∧ ¬ d k = 0)) := by
  obtain ⟨t1, t2⟩ := tf_loop o B p n hn1 hn hp 32 0 33 D (by omega) (by omega) (fun j hj => by omega)
  obtain ⟨ok, one', u1, u2, u3, u4⟩ := unA_eq B p n hn1 hn hp (decide (hb B p n 0 = 13 ∨ hb B p n 0 = 11)) (by rw [decide_eq_true_iff]) one
  have hd31 : ∀ j, 31 ≤ j → dig B p n j = 0 := fun j hj => by unfold dig; rw [if_neg (by omega)]
  have hdn : ∀ j, 2 * n - 1 ≤ j → dig B p n j = 0 := fun j hj => by unfold dig; rw [if_neg (by omega)]
  by_cases c : ∀ j, 0 ≤ j → j < 32 → dig B p n j ≤ 9
  · obtain ⟨D', f1, f2⟩ := t1 c
    have hok : ok = decide (9 < hb B p n 0) := by
      cases q : ok with
      | true => rw [q] at u2; exact (decide_eq_true (u2.mp rfl).1).symm
      | false =>
        rw [q] at u2
        refine (decide_eq_false (fun z => ?_)).symm
        cases u2.mpr ⟨z, fun j hj => c j (by omega) hj⟩
    refine ⟨ok, _, D', one', by rw [hok]; exact f1, u1, u4, fun _ => ⟨fun k => ((dig B p n k : Nat) : Int), fun k => ?_, fun k hk => ?_, fun k hk => ?_, fun k hk => by rw [f2 k hk, iI_n], fun k hk => ?_, fun q => ?_⟩⟩
    · show 0 ≤ ((dig B p n k : Nat) : Int) ∧ ((dig B p n k : Nat) : Int) ≤ 9
      by_cases z : k < 32
      · have := c k (by omega) z; omega
      · rw [hd31 k (by omega)]; omega
    · show ((dig B p n k : Nat) : Int) = 0
      rw [hd31 k hk]; rfl
    · show ((dig B p n k : Nat) : Int) = 0
      rw [hdn k hk]; rfl
    · rw [u3 k hk]
      by_cases z : f_X1_isZero D' 32 = true
      · have hz := (isZero32 D').mp z
        have : dig B p n k = 0 := by
          by_cases y : k < 32
          · have h1 := hz k y
            rw [f2 k y] at h1
            have h2 := dig_lt B p n k
            exact (nI_eq (b := 0) (by omega) (by omega)).mp h1
          · exact hd31 k (by omega)
        show iI (sg _ * ((dig B p n k : Nat) : Int)) = iI (sg _ * ((dig B p n k : Nat) : Int))
        rw [this, show ((0 : Nat) : Int) = 0 from rfl, Int.mul_zero, Int.mul_zero]
      · rw [Bool.not_eq_true] at z
        rw [z, Bool.not_false, Bool.and_true]
    · refine Classical.byContradiction fun y => ?_
      have hz : f_X1_isZero D' 32 = true := (isZero32 D').mpr fun j hj => by
        have : dig B p n j = 0 := by
          by_cases w : j < 31
          · refine Classical.byContradiction fun v => y ⟨j, w, ?_⟩
            show ¬ ((dig B p n j : Nat) : Int) = 0
            omega
          · exact hd31 j (by omega)
        rw [f2 j hj, this]; rfl
      rw [hz, Bool.not_true, Bool.and_false] at q
      cases q
  · obtain ⟨ng, D', f1⟩ := t2 c
    have hok : ok = false := by
      cases q : ok with
      | false => rfl
      | true => rw [q] at u2; exact absurd (fun j _ hj => (u2.mp rfl).2 j hj) c
    subst hok
    exact ⟨false, ng, D', one', f1, u1, u4, fun q => (by cases q)⟩

theorem unB_step (b : rw_) (p n x : Int32) (f : Nat) (one : rw_) (ok : Bool) (hx : ¬ (40 : Int32) ≤ x) (v : Int32) (hv : v = if (2 : Int32) * n - (1 : Int32) ≤ x then 0 else f_X8_half b p n (x + (1 : Int32))) (ng : Bool) (hng : ng = true ↔ (f_X8_half b p n 0 = 11 ∨ f_X8_half b p n 0 = 13)) :
    f_X8_unpackB_L26 b p n (f + 1) one x ok = f_X8_unpackB_L26 b p n f (upd one x.toNatClampNeg (if ng = true then -v else v)) (x + (1 : Int32)) (ok && !decide ((10 : Int32) ≤ v)) ∧
    ((¬ (2 : Int32) * n - (1 : Int32) ≤ x → s_X8_half p n (x + (1 : Int32))) → s_X8_unpackB_L26 b p n f (upd one x.toNatClampNeg (if ng = true then -v else v)) (x + (1 : Int32)) (ok && !decide ((10 : Int32) ≤ v)) → s_X8_unpackB_L26 b p n (f + 1) one x ok) := by
  rw [f_X8_unpackB_L26, s_X8_unpackB_L26, if_neg hx, if_neg hx]
  by_cases c1 : (2 : Int32) * n - (1 : Int32) ≤ x
  · rw [if_pos c1] at hv
    subst hv
    rw [if_pos c1, if_pos c1]
    by_cases c11 : f_X8_half b p n 0 = 11
    · have hg := hng.mpr (Or.inl c11)
      subst hg
      cases ok
      · simp only [if_pos c11, if_neg (show ¬ (false = true) by decide), if_true, Bool.false_and]; exact ⟨trivial, fun _ q => q⟩
      · simp only [if_pos c11, if_true, Bool.true_and, show (!decide ((10 : Int32) ≤ 0)) = true by decide]; exact ⟨trivial, fun _ q => q⟩
    · by_cases c13 : f_X8_half b p n 0 = 13
      · have hg := hng.mpr (Or.inr c13)
        subst hg
        cases ok
        · simp only [if_neg c11, if_pos c13, if_neg (show ¬ (false = true) by decide), if_true, Bool.false_and]; exact ⟨trivial, fun _ q => q⟩
        · simp only [if_neg c11, if_pos c13, if_true, Bool.true_and, show (!decide ((10 : Int32) ≤ 0)) = true by decide]; exact ⟨trivial, fun _ q => q⟩
      · have hg : ng = false := by cases ng with | false => rfl | true => exact absurd (hng.mp rfl) (fun q => q.elim c11 c13)
        subst hg
        cases ok
        · simp only [if_neg c11, if_neg c13, if_neg (show ¬ (false = true) by decide), Bool.false_and]; exact ⟨trivial, fun _ q => q⟩
        · simp only [if_neg c11, if_neg c13, if_neg (show ¬ (false = true) by decide), if_true, Bool.true_and, show (!decide ((10 : Int32) ≤ 0)) = true by decide]; exact ⟨trivial, fun _ q => q⟩
  · rw [if_neg c1] at hv
    rw [if_neg c1, if_neg c1, ← hv]
    have hcc : (!decide ((10 : Int32) ≤ v)) = if (10 : Int32) ≤ v then false else true := by
      by_cases z : (10 : Int32) ≤ v
      · rw [if_pos z, decide_eq_true z]; rfl
      · rw [if_neg z, decide_eq_false z]; rfl
    rw [hcc]
    by_cases c11 : f_X8_half b p n 0 = 11
    · have hg := hng.mpr (Or.inl c11)
      subst hg
      cases ok
      · simp only [if_pos c11, if_neg (show ¬ (false = true) by decide), if_true, Bool.false_and]; exact ⟨trivial, fun q1 q2 => ⟨q1 c1, q2⟩⟩
      · by_cases z : (10 : Int32) ≤ v
        · simp only [if_pos c11, if_true, if_pos z, Bool.true_and]; exact ⟨trivial, fun q1 q2 => ⟨q1 c1, q2⟩⟩
        · simp only [if_pos c11, if_true, if_neg z, Bool.true_and]; exact ⟨trivial, fun q1 q2 => ⟨q1 c1, q2⟩⟩
    · by_cases c13 : f_X8_half b p n 0 = 13
      · have hg := hng.mpr (Or.inr c13)
        subst hg
        cases ok
        · simp only [if_neg c11, if_pos c13, if_neg (show ¬ (false = true) by decide), if_true, Bool.false_and]; exact ⟨trivial, fun q1 q2 => ⟨q1 c1, q2⟩⟩
        · by_cases z : (10 : Int32) ≤ v
          · simp only [if_neg c11, if_pos c13, if_true, if_pos z, Bool.true_and]; exact ⟨trivial, fun q1 q2 => ⟨q1 c1, q2⟩⟩
          · simp only [if_neg c11, if_pos c13, if_true, if_neg z, Bool.true_and]; exact ⟨trivial, fun q1 q2 => ⟨q1 c1, q2⟩⟩
      · have hg : ng = false := by cases ng with | false => rfl | true => exact absurd (hng.mp rfl) (fun q => q.elim c11 c13)
        subst hg
        cases ok
        · simp only [if_neg c11, if_neg c13, if_neg (show ¬ (false = true) by decide), Bool.false_and]; exact ⟨trivial, fun q1 q2 => ⟨q1 c1, q2⟩⟩
        · by_cases z : (10 : Int32) ≤ v
          · simp only [if_neg c11, if_neg c13, if_neg (show ¬ (false = true) by decide), if_true, if_pos z, Bool.true_and]; exact ⟨trivial, fun q1 q2 => ⟨q1 c1, q2⟩⟩
          · simp only [if_neg c11, if_neg c13, if_neg (show ¬ (false = true) by decide), if_true, if_neg z, Bool.true_and]; exact ⟨trivial, fun q1 q2 => ⟨q1 c1, q2⟩⟩
theorem unB_loop (B : rw_) (p n : Nat) (hn1 : 1 ≤ n) (hn : n ≤ 16) (hp : p + n ≤ 2048) (ng : Bool) (hng : ng = true ↔ (hb B p n 0 = 13 ∨ hb B p n 0 = 11)) : ∀ (d k fuel : Nat) (one : rw_) (ok : Bool), k + d = 40 → d < fuel →
    ∃ ok' one', f_X8_unpackB_L26 (uB B) (nI p) (nI n) fuel one (nI k) ok = (ok', one') ∧ (ok' = true ↔ ok = true ∧ ∀ j, k ≤ j → j < 40 → dig B p n j ≤ 9) ∧ (∀ j, j < k → one' j = one j) ∧ (∀ j, k ≤ j → j < 40 → one' j = iI (sg ng * dig B p n j)) ∧ s_X8_unpackB_L26 (uB B) (nI p) (nI n) fuel one (nI k) ok := by
  intro d
  induction d with
  | zero =>
    intro k fuel one ok h1 h2
    obtain ⟨f, rfl⟩ : ∃ f, fuel = f + 1 := ⟨fuel - 1, by omega⟩
    refine ⟨ok, one, ?_, ⟨fun q => ⟨q, fun j h3 h4 => by omega⟩, fun q => q.1⟩, fun j _ => rfl, fun j h3 h4 => by omega, ?_⟩
    · rw [f_X8_unpackB_L26, if_pos (show (40 : Int32) ≤ nI k from nI_le (a := 40) (by omega) (by omega))]
    · rw [s_X8_unpackB_L26, if_pos (show (40 : Int32) ≤ nI k from nI_le (a := 40) (by omega) (by omega))]
      trivial
  | succ d ih =>
    intro k fuel one ok h1 h2
    obtain ⟨f, rfl⟩ : ∃ f, fuel = f + 1 := ⟨fuel - 1, by omega⟩
    have hdl := dig_lt B p n k
    have h0l := hb_lt B p n 0
    have e1 : nI k + (1 : Int32) = nI (k + 1) := nI_1 k
    have h0 : f_X8_half (uB B) (nI p) (nI n) 0 = nI (hb B p n 0) := (half_r B p n 0 (by omega) hp).1
    have hv : nI (dig B p n k) = if (2 : Int32) * nI n - (1 : Int32) ≤ nI k then 0 else f_X8_half (uB B) (nI p) (nI n) (nI k + (1 : Int32)) := by
      rw [two_n n hn1, e1]
      unfold dig
      by_cases c : k < 2 * n - 1
      · rw [if_pos c, if_neg (nI_ge (by omega) (by omega)), (half_r B p n (k + 1) (by omega) hp).1]
      · rw [if_neg c, if_pos (nI_le (by omega) (by omega))]; rfl
    have hng2 : ng = true ↔ (f_X8_half (uB B) (nI p) (nI n) 0 = 11 ∨ f_X8_half (uB B) (nI p) (nI n) 0 = 13) := by
      rw [hng, h0, show (11 : Int32) = nI 11 by decide, show (13 : Int32) = nI 13 by decide, nI_eq (by omega) (by omega), nI_eq (by omega) (by omega)]
      exact Or.comm
    obtain ⟨s1, s2⟩ := unB_step (uB B) (nI p) (nI n) (nI k) f one ok (nI_ge (b := 40) (by omega) (by omega)) (nI (dig B p n k)) hv ng hng2
    rw [nI_clamp (by omega), e1] at s1 s2
    obtain ⟨ok', one', i1, i2, i3, i4, i5⟩ := ih (k + 1) f (upd one k (if ng = true then -nI (dig B p n k) else nI (dig B p n k))) (ok && !decide ((10 : Int32) ≤ nI (dig B p n k))) (by omega) (by omega)
    have e10 : (10 : Int32) ≤ nI (dig B p n k) ↔ 10 ≤ dig B p n k := nI_leI (a := 10) (by omega) (by omega)
    refine ⟨ok', one', by rw [s1]; exact i1, ?_, fun j hj => ?_, fun j h3 h4 => ?_, s2 (fun c => ?_) i5⟩
    · rw [i2, Bool.and_eq_true, Bool.not_eq_true', decide_eq_false_iff_not, e10]
      refine ⟨fun q => ⟨q.1.1, fun j h3 h4 => ?_⟩, fun q => ⟨⟨q.1, ?_⟩, fun j h3 h4 => q.2 j (by omega) h4⟩⟩
      · by_cases z : j = k
        · rw [z]; have := q.1.2; omega
        · exact q.2 j (by omega) h4
      · have := q.2 k (by omega) (by omega); omega
    · rw [i3 j (by omega), pk_un (by omega)]
    · by_cases z : j = k
      · subst z
        rw [i3 j (by omega), pk_us]
        cases ng
        · rw [if_neg (by decide), ← iI_n, show sg false = 1 from rfl, Int.one_mul]
        · rw [if_pos rfl, ← iI_n, iI_neg, show sg true = -1 from rfl]
          congr 1
          omega
      · exact i4 j (by omega) h4
    · rw [two_n n hn1] at c
      have c2 : k < 2 * n - 1 := Classical.byContradiction fun q => c (nI_le (by omega) (by omega))
      exact (half_r B p n (k + 1) (by omega) hp).2
theorem unB_eq (B : rw_) (p n : Nat) (hn1 : 1 ≤ n) (hn : n ≤ 16) (hp : p + n ≤ 2048) (ng : Bool) (hng : ng = true ↔ (hb B p n 0 = 13 ∨ hb B p n 0 = 11)) (one : rw_) :
    ∃ ok one', f_X8_unpackB (uB B) one (nI p) (nI n) = (ok, one') ∧ (ok = true ↔ valid B p n) ∧ (∀ j, j < 40 → one' j = iI (sg ng * dig B p n j)) ∧ s_X8_unpackB (uB B) one (nI p) (nI n) := by
  obtain ⟨h0, s0⟩ : f_X8_half (uB B) (nI p) (nI n) 0 = nI (hb B p n 0) ∧ s_X8_half (nI p) (nI n) 0 := half_r B p n 0 (by omega) hp
  have h0l := hb_lt B p n 0
  have e9 : nI (hb B p n 0) ≤ (9 : Int32) ↔ hb B p n 0 ≤ 9 := nI_leI (b := 9) (by omega) (by omega)
  have hd32 : ∀ j, 31 ≤ j → dig B p n j = 0 := fun j hj => by unfold dig; rw [if_neg (by omega)]
  unfold f_X8_unpackB s_X8_unpackB
  rw [h0]
  by_cases c : hb B p n 0 ≤ 9
  · rw [if_pos (e9.mpr c), if_pos (e9.mpr c)]
    obtain ⟨ok', one', i1, i2, -, i4, i5⟩ := unB_loop B p n hn1 hn hp ng hng 40 0 41 one false (by omega) (by omega)
    refine ⟨ok', one', i1, i2.trans ⟨fun q => (by cases q.1), fun q => absurd q.1 (by omega)⟩, fun j hj => i4 j (by omega) hj, s0, i5⟩
  · rw [if_neg (fun q => c (e9.mp q)), if_neg (fun q => c (e9.mp q))]
    obtain ⟨ok', one', i1, i2, -, i4, i5⟩ := unB_loop B p n hn1 hn hp ng hng 40 0 41 one true (by omega) (by omega)
    refine ⟨ok', one', i1, i2.trans ⟨fun q => ⟨by omega, fun j hj => q.2 j (by omega) (by omega)⟩, fun q => ⟨rfl, fun j _ hj => ?_⟩⟩, fun j hj => i4 j (by omega) hj, s0, i5⟩
    by_cases z : j < 32
    · exact q.2 j z
    · rw [hd32 j (by omega)]; omega
/-- both readings -/
theorem rdB (o : Bool) (D B : rw_) (p n : Nat) (hn1 : 1 ≤ n) (hn : n ≤ 16) (hp : p + n ≤ 2048) (one : rw_) :
    ∃ (ok : Bool) (ng : Bool) (D' one' : rw_), f_X1_takeFrom o D B (nI p) (nI n) = (ok, ng, D') ∧ f_X8_unpackB (uB B) one (nI p) (nI n) = (ok, one') ∧ s_X8_unpackB (uB B) one (nI p) (nI n) ∧
      (ok = true → ∃ d : Nat → Int, (∀ k, 0 ≤ d k ∧ d k ≤ 9) ∧ (∀ k, 31 ≤ k → d k = 0) ∧ (∀ k, 2 * n - 1 ≤ k → d k = 0) ∧ (∀ k, k < 32 → D' k = iI (d k)) ∧ (∀ k, k < 40 → one' k = iI (sg ng * d k)) ∧ (ng = true → ∃ k, k < 31 ∧ ¬ d k = 0)) := by
  obtain ⟨t1, t2⟩ := tf_loop o B p n hn1 hn hp 32 0 33 D (by omega) (by omega) (fun j hj => by omega)
  obtain ⟨ok, one', u1, u2, u3, u4⟩ := unB_eq B p n hn1 hn hp (decide (hb B p n 0 = 13 ∨ hb B p n 0 = 11)) (by rw [decide_eq_true_iff]) one
  have hd31 : ∀ j, 31 ≤ j → dig B p n j = 0 := fun j hj => by unfold dig; rw [if_neg (by omega)]
  have hdn : ∀ j, 2 * n - 1 ≤ j → dig B p n j = 0 := fun j hj => by unfold dig; rw [if_neg (by omega)]
  by_cases c : ∀ j, 0 ≤ j → j < 32 → dig B p n j ≤ 9
  · obtain ⟨D', f1, f2⟩ := t1 c
    have hok : ok = decide (9 < hb B p n 0) := by
      cases q : ok with
      | true => rw [q] at u2; exact (decide_eq_true (u2.mp rfl).1).symm
      | false =>
        rw [q] at u2
        refine (decide_eq_false (fun z => ?_)).symm
        cases u2.mpr ⟨z, fun j hj => c j (by omega) hj⟩
    refine ⟨ok, _, D', one', by rw [hok]; exact f1, u1, u4, fun _ => ⟨fun k => ((dig B p n k : Nat) : Int), fun k => ?_, fun k hk => ?_, fun k hk => ?_, fun k hk => by rw [f2 k hk, iI_n], fun k hk => ?_, fun q => ?_⟩⟩
    · show 0 ≤ ((dig B p n k : Nat) : Int) ∧ ((dig B p n k : Nat) : Int) ≤ 9
      by_cases z : k < 32
      · have := c k (by omega) z; omega
      · rw [hd31 k (by omega)]; omega
    · show ((dig B p n k : Nat) : Int) = 0
      rw [hd31 k hk]; rfl
    · show ((dig B p n k : Nat) : Int) = 0
      rw [hdn k hk]; rfl
    · rw [u3 k hk]
      by_cases z : f_X1_isZero D' 32 = true
      · have hz := (isZero32 D').mp z
        have : dig B p n k = 0 := by
          by_cases y : k < 32
          · have h1 := hz k y
            rw [f2 k y] at h1
            have h2 := dig_lt B p n k
            exact (nI_eq (b := 0) (by omega) (by omega)).mp h1
          · exact hd31 k (by omega)
        show iI (sg _ * ((dig B p n k : Nat) : Int)) = iI (sg _ * ((dig B p n k : Nat) : Int))
        rw [this, show ((0 : Nat) : Int) = 0 from rfl, Int.mul_zero, Int.mul_zero]
      · rw [Bool.not_eq_true] at z
        rw [z, Bool.not_false, Bool.and_true]
    · refine Classical.byContradiction fun y => ?_
      have hz : f_X1_isZero D' 32 = true := (isZero32 D').mpr fun j hj => by
        have : dig B p n j = 0 := by
          by_cases w : j < 31
          · refine Classical.byContradiction fun v => y ⟨j, w, ?_⟩
            show ¬ ((dig B p n j : Nat) : Int) = 0
            omega
          · exact hd31 j (by omega)
        rw [f2 j hj, this]; rfl
      rw [hz, Bool.not_true, Bool.and_false] at q
      cases q
  · obtain ⟨ng, D', f1⟩ := t2 c
    have hok : ok = false := by
      cases q : ok with
      | false => rfl
      | true => rw [q] at u2; exact absurd (fun j _ hj => (u2.mp rfl).2 j hj) c
    subst hok
    exact ⟨false, ng, D', one', f1, u1, u4, fun q => (by cases q)⟩
