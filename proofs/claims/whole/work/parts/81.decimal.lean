/-! packed arithmetic: the reference's rows, then both sides -/
theorem d194 (b one two : rw_) (r : Nat → Int) (hr : ∀ k, 0 ≤ r k ∧ r k ≤ 9) (ng : Bool) (ho : ∀ k, k < 40 → one k = iI (sg ng * r k)) (p2 p3 : Int32) (o : tO) : ∀ (d k fuel : Nat) (fl : Bool), k + d = 40 → d < fuel →
    ∃ fl' : Bool, (fl' = true ↔ fl = true ∨ ¬ ∀ j, k ≤ j → j < 40 → r j = 0) ∧ f_X8_decimal_L194 b p2 p3 two fuel o one (nI k) fl = f_X8_decimal_L194 b p2 p3 two 1 o one (nI 40) fl' ∧ (s_X8_store b one p2 p3 → s_X8_decimal_L194 b p2 p3 fuel o one (nI k) fl) := by
  intro d
  induction d with
  | zero =>
    intro k fuel fl h1 h2
    obtain ⟨f, rfl⟩ : ∃ f, fuel = f + 1 := ⟨fuel - 1, by omega⟩
    have hk : k = 40 := by omega
    subst hk
    refine ⟨fl, ⟨Or.inl, fun q => q.elim id (fun z => absurd (fun j h3 h4 => by omega) z)⟩, ?_, ?_⟩
    · rw [f_X8_decimal_L194, f_X8_decimal_L194, if_pos (show (40 : Int32) ≤ nI 40 by decide), if_pos (show (40 : Int32) ≤ nI 40 by decide)]
    · rw [s_X8_decimal_L194, if_pos (show (40 : Int32) ≤ nI 40 by decide)]; exact id
  | succ d ih =>
    intro k fuel fl h1 h2
    obtain ⟨f, rfl⟩ : ∃ f, fuel = f + 1 := ⟨fuel - 1, by omega⟩
    have v1 : vp_in (nI k) 40 := vp_in_nI (by omega) (by omega)
    have hk1 : nI k + (1 : Int32) = nI (k + 1) := nI_1 k
    have hk40 : ¬ (40 : Int32) ≤ nI k := nI_ge (b := 40) (by omega) (by omega)
    have hrk := hr k
    have hz : one k = 0 ↔ r k = 0 := by
      rw [ho k (by omega)]
      refine (iI_eq (y := 0) ?_ ?_ (by omega) (by omega)).trans ?_
      · rcases sg_sq ng with z | z <;> rw [z] <;> omega
      · rcases sg_sq ng with z | z <;> rw [z] <;> omega
      · rcases sg_sq ng with z | z <;> rw [z] <;> omega
    cases fl with
    | true =>
      obtain ⟨fl', i1, i2, i3⟩ := ih (k + 1) f true (by omega) (by omega)
      have ht : fl' = true := i1.mpr (Or.inl rfl)
      refine ⟨fl', ⟨fun _ => Or.inl rfl, fun _ => ht⟩, ?_, ?_⟩
      · rw [← i2, f_X8_decimal_L194, if_neg hk40, if_pos rfl, hk1]
      · rw [s_X8_decimal_L194, if_neg hk40, if_pos rfl, hk1]; exact i3
    | false =>
      by_cases c : r k = 0
      · obtain ⟨fl', i1, i2, i3⟩ := ih (k + 1) f false (by omega) (by omega)
        refine ⟨fl', i1.trans ⟨fun q => q.elim (fun z => by cases z) (fun z => Or.inr (fun y => z (fun j h3 h4 => y j (by omega) h4))), fun q => q.elim (fun z => by cases z) (fun z => Or.inr (fun y => z (fun j h3 h4 => ?_)))⟩, ?_, ?_⟩
        · by_cases w : j = k
          · rw [w]; exact c
          · exact y j (by omega) h4
        · rw [← i2, f_X8_decimal_L194, if_neg hk40, if_neg (by decide), nI_clamp (by omega), if_pos (hz.mpr c), hk1]
        · rw [s_X8_decimal_L194, if_neg hk40, if_neg (by decide), nI_clamp (by omega), if_pos (hz.mpr c), hk1]; exact fun q => ⟨v1, i3 q⟩
      · obtain ⟨fl', i1, i2, i3⟩ := ih (k + 1) f true (by omega) (by omega)
        have ht : fl' = true := i1.mpr (Or.inl rfl)
        refine ⟨fl', ⟨fun _ => Or.inr (fun q => c (q k (by omega) (by omega))), fun _ => ht⟩, ?_, ?_⟩
        · rw [← i2, f_X8_decimal_L194, if_neg hk40, if_neg (by decide), nI_clamp (by omega), if_neg (fun q => c (hz.mp q)), hk1]
        · rw [s_X8_decimal_L194, if_neg hk40, if_neg (by decide), nI_clamp (by omega), if_neg (fun q => c (hz.mp q)), hk1]; exact fun q => ⟨v1, i3 q⟩
theorem d112 (b two : rw_) (A C X : Nat → Int) (p1 : Int32) (hX : ∀ k, X k = if p1 = 249 ∨ p1 = 251 then A k - C k else A k + C k) (h2 : ∀ k, k < 40 → two k = iI (C k)) (p2 p3 : Int32) (o : tO) : ∀ (d k fuel : Nat) (one : rw_), k + d = 40 → d < fuel → (∀ j, j < k → one j = iI (X j)) → (∀ j, k ≤ j → j < 40 → one j = iI (A j)) →
    ∃ one' : rw_, (∀ j, j < 40 → one' j = iI (X j)) ∧ f_X8_decimal_L112 b p1 p2 p3 fuel o one two (nI k) = f_X8_decimal_L112 b p1 p2 p3 1 o one' two (nI 40) ∧ (s_X8_decimal_L112 b p1 p2 p3 1 o one' two (nI 40) → s_X8_decimal_L112 b p1 p2 p3 fuel o one two (nI k)) := by
  intro d
  induction d with
  | zero =>
    intro k fuel one h3 h4 h5 h6
    obtain ⟨f, rfl⟩ : ∃ f, fuel = f + 1 := ⟨fuel - 1, by omega⟩
    have hk : k = 40 := by omega
    subst hk
    refine ⟨one, h5, ?_, ?_⟩
    · rw [f_X8_decimal_L112, f_X8_decimal_L112, if_pos (show (40 : Int32) ≤ nI 40 by decide), if_pos (show (40 : Int32) ≤ nI 40 by decide)]
    · intro q
      rw [s_X8_decimal_L112, if_pos (show (40 : Int32) ≤ nI 40 by decide)] at q ⊢
      exact q
  | succ d ih =>
    intro k fuel one h3 h4 h5 h6
    obtain ⟨f, rfl⟩ : ∃ f, fuel = f + 1 := ⟨fuel - 1, by omega⟩
    have hk1 : nI k + (1 : Int32) = nI (k + 1) := nI_1 k
    have hk40 : ¬ (40 : Int32) ≤ nI k := nI_ge (b := 40) (by omega) (by omega)
    have key : ∀ v : Int32, v = iI (X k) → ∃ one' : rw_, (∀ j, j < 40 → one' j = iI (X j)) ∧ f_X8_decimal_L112 b p1 p2 p3 f o (upd one k v) two (nI (k + 1)) = f_X8_decimal_L112 b p1 p2 p3 1 o one' two (nI 40) ∧ (s_X8_decimal_L112 b p1 p2 p3 1 o one' two (nI 40) → s_X8_decimal_L112 b p1 p2 p3 f o (upd one k v) two (nI (k + 1))) := by
      intro v hv
      exact ih (k + 1) f (upd one k v) (by omega) (by omega) (fun j hj => by
        by_cases z : j = k
        · rw [z, pk_us]; exact hv
        · rw [pk_un z]; exact h5 j (by omega)) (fun j h7 h8 => by rw [pk_un (by omega)]; exact h6 j (by omega) h8)
    have hA := h6 k (by omega) (by omega)
    have hC := h2 k (by omega)
    have hXk := hX k
    rw [f_X8_decimal_L112, s_X8_decimal_L112, if_neg hk40, if_neg hk40, nI_clamp (by omega), hk1]
    by_cases c9 : p1 = 249
    · rw [if_pos (Or.inl c9)] at hXk
      rw [if_pos c9, if_pos c9]
      exact key _ (by rw [hA, hC, iI_neg, iI_add, hXk]; rfl)
    · rw [if_neg c9, if_neg c9]
      by_cases c1 : p1 = 251
      · rw [if_pos (Or.inr c1)] at hXk
        rw [if_pos c1, if_pos c1]
        exact key _ (by rw [hA, hC, iI_neg, iI_add, hXk]; rfl)
      · rw [if_neg (fun q => q.elim c9 c1)] at hXk
        rw [if_neg c1, if_neg c1]
        exact key _ (by rw [hA, hC, iI_add, hXk])
theorem calcA (x1 : Bool) (x2 x3 x4 op imm : Int32) (rn : Nat) (sx : Int32) (p : Nat) (opl : Int32) (h249 : ¬ op = 249) (hrn : rn < 16) (hp : p + (rn + 1) ≤ 2048) (B one two D' : rw_) (A C X r : Nat → Int) (ng : Bool) (hX : ∀ k, X k = if op = 249 ∨ op = 251 then A k - C k else A k + C k) (h1 : ∀ k, k < 40 → one k = iI (A k)) (h2 : ∀ k, k < 40 → two k = iI (C k))
    (hr : ∀ k, 0 ≤ r k ∧ r k ≤ 9) (hr32 : ∀ k, 32 ≤ k → r k = 0) (hD : ∀ k, k < 32 → D' k = iI (r k)) (hcase : (tp X 40 = 0 ∧ (∀ k, r k = 0) ∧ ng = false) ∨ (tp X 40 = sg ng ∧ ∃ k, k < 32 ∧ ¬ r k = 0))
    (hset : ∀ one, (∀ j, j < 40 → one j = iI (X j)) → ∃ one', f_X8_settle one = (iI (tp X 40), one') ∧ (∀ j, j < 40 → one' j = iI (sg ng * r j)) ∧ s_X8_settle one) (a1 a2 a3 a4 : Int32) (e w : Bool) (s l : Int32) (R : tR) (ha1 : rg a1 32) :
    ∃ c b3 B' one', f_X3_putPacked (x1, x2, x3, x4, op, imm, nI rn, sx, nI p, opl) ng D' (a1, a2, a3, a4) B = (c, (a1, a2, b3, a4), B') ∧ f_X8_decimal_L112 (uB B) op (nI p) (nI (rn + 1)) (((40 : Int32).toInt - (0 : Int32).toInt).toNat + 1) (a1, a2, a3, a4, e, w, s, l, 0, 0, R) one two 0 = ((a1, a2, b3, a4, e, w, s, l, 0, c, R), uB B', one', two) ∧ rg b3 4 ∧ s_X8_decimal_L112 (uB B) op (nI p) (nI (rn + 1)) (((40 : Int32).toInt - (0 : Int32).toInt).toNat + 1) (a1, a2, a3, a4, e, w, s, l, 0, 0, R) one two 0 := by
  obtain ⟨one1, k1, k2, k3⟩ := d112 (uB B) two A C X op hX h2 (nI p) (nI (rn + 1)) (a1, a2, a3, a4, e, w, s, l, 0, 0, R) 40 0 41 one (by omega) (by omega) (fun j hj => by omega) (fun j _ hj => h1 j hj)
  obtain ⟨one', g1, g2, g3⟩ := hset one1 k1
  have hr1 : nI rn + (1 : Int32) = nI (rn + 1) := nI_1 rn
  have hσ : (iI (tp X 40)).toInt64.toInt = tp X 40 := by
    rw [Int32.toInt_toInt64]
    rcases tp_01 X 40 with q | q | q <;> rw [q] <;> decide
  obtain ⟨B', p1, p2, p3⟩ := stored ng D' B one' r hr hD g2 p (rn + 1) (by omega) (by omega) hp
  have hfu : ((40 : Int32).toInt - ((2 : Int32) * nI (rn + 1) - (1 : Int32)).toInt).toNat + 1 = 40 - (2 * (rn + 1) - 1) + 1 := by
    rw [two_n (rn + 1) (by omega), nI_toInt (by omega), show (40 : Int32).toInt = 40 by decide]
    omega
  obtain ⟨fl, f1, f2, f3⟩ := d194 (uB B) one' two r hr ng g2 (nI p) (nI (rn + 1)) (a1, a2, od (tp X 40) 0, a4, e, w, s, l, 0, 0, R) (40 - (2 * (rn + 1) - 1)) (2 * (rn + 1) - 1) (40 - (2 * (rn + 1) - 1) + 1) false (by omega) (by omega)
  have hex : f_X8_decimal_L112 (uB B) op (nI p) (nI (rn + 1)) (((40 : Int32).toInt - (0 : Int32).toInt).toNat + 1) (a1, a2, a3, a4, e, w, s, l, 0, 0, R) one two 0 = f_X8_decimal_L194 (uB B) (nI p) (nI (rn + 1)) two 1 (a1, a2, od (tp X 40) 0, a4, e, w, s, l, 0, 0, R) one' (nI 40) fl := by
    refine Eq.trans k2 ?_
    rw [f_X8_decimal_L112, if_pos (show (40 : Int32) ≤ nI 40 by decide), g1]
    simp only [q_let]
    rw [sign_eq, hσ, if_neg h249, hfu, two_n (rn + 1) (by omega), f2]
  have hsx : s_X8_decimal_L112 (uB B) op (nI p) (nI (rn + 1)) (((40 : Int32).toInt - (0 : Int32).toInt).toNat + 1) (a1, a2, a3, a4, e, w, s, l, 0, 0, R) one two 0 := by
    refine k3 ?_
    rw [s_X8_decimal_L112, if_pos (show (40 : Int32) ≤ nI 40 by decide), g1]
    simp only [q_let]
    rw [sign_eq, hσ, if_neg h249, hfu, two_n (rn + 1) (by omega)]
    exact ⟨g3, f3 p3⟩
  have hwi : f_X1_isWithin D' (nI (2 * (rn + 1) - 1)) = true ↔ ∀ j, 2 * (rn + 1) - 1 ≤ j → j < 40 → r j = 0 := by
    rw [isWithin_iff D' _ (by omega)]
    refine ⟨fun q j h3 h4 => ?_, fun q j h3 h4 => ?_⟩
    · by_cases z : j < 32
      · have h5 := q j h3 z
        have h6 := hr j
        rw [hD j z] at h5
        exact (iI_eq (y := 0) (by omega) (by omega) (by omega) (by omega)).mp h5
      · exact hr32 j (by omega)
    · rw [hD j h4, q j h3 (by omega)]; rfl
  have hsc : f_X1_signCode ng D' = od (tp X 40) 0 := by
    unfold f_X1_signCode
    rcases hcase with ⟨q1, q2, q3⟩ | ⟨q1, k, q2, q3⟩
    · rw [q1, q3, if_neg (by decide), if_pos ((isZero32 D').mpr (fun j hj => by rw [hD j hj, q2 j]; rfl))]; rfl
    · rw [q1]
      cases ng with
      | true => rw [if_pos rfl]; rfl
      | false =>
        rw [if_neg (by decide), if_neg (fun z => q3 ?_)]
        · rfl
        · have h5 := (isZero32 D').mp z k q2
          have h6 := hr k
          rw [hD k q2] at h5
          exact (iI_eq (y := 0) (by omega) (by omega) (by omega) (by omega)).mp h5
  rw [hex, f_X8_decimal_L194, if_pos (show (40 : Int32) ≤ nI 40 by decide), p2]
  simp only [q_let]
  unfold f_X3_putPacked
  dsimp only
  rw [hr1, p1]
  simp only [q_let]
  by_cases cw : ∀ j, 2 * (rn + 1) - 1 ≤ j → j < 40 → r j = 0
  · have hfl : ¬ fl = true := fun q => (f1.mp q).elim (fun z => by cases z) (fun z => z cw)
    rw [if_pos (hwi.mpr cw), if_neg hfl, hsc]
    exact ⟨0, _, B', one', rfl, rfl, od_rg _ _, hsx⟩
  · have hfl : fl = true := f1.mpr (Or.inr cw)
    have e16 := al16 (a2 := a2) (a3 := 3) (a4 := a4) ha1
    rw [if_neg (fun q => cw (hwi.mp q)), if_pos hfl]
    by_cases ca : f_X5_allows (a1, a2, 3, a4) 16 = true
    · rw [if_pos ca, if_pos (e16.mp ca)]
      exact ⟨10, 3, B', one', rfl, rfl, ⟨by decide, by decide⟩, hsx⟩
    · rw [if_neg ca, if_neg (fun q => ca (e16.mpr q))]
      exact ⟨0, 3, B', one', rfl, rfl, ⟨by decide, by decide⟩, hsx⟩
theorem d194b (b one two : rw_) (r : Nat → Int) (hr : ∀ k, 0 ≤ r k ∧ r k ≤ 9) (ng : Bool) (ho : ∀ k, k < 40 → one k = iI (sg ng * r k)) (p2 p3 : Int32) (o : tO) : ∀ (d k fuel : Nat) (fl : Bool), k + d = 40 → d < fuel →
    ∃ fl' : Bool, (fl' = true ↔ fl = true ∨ ¬ ∀ j, k ≤ j → j < 40 → r j = 0) ∧ f_X8_decimal_L194b b p2 p3 two fuel o one (nI k) fl = f_X8_decimal_L194b b p2 p3 two 1 o one (nI 40) fl' ∧ (s_X8_store b one p2 p3 → s_X8_decimal_L194b b p2 p3 fuel o one (nI k) fl) := by
  intro d
  induction d with
  | zero =>
    intro k fuel fl h1 h2
    obtain ⟨f, rfl⟩ : ∃ f, fuel = f + 1 := ⟨fuel - 1, by omega⟩
    have hk : k = 40 := by omega
    subst hk
    refine ⟨fl, ⟨Or.inl, fun q => q.elim id (fun z => absurd (fun j h3 h4 => by omega) z)⟩, ?_, ?_⟩
    · rw [f_X8_decimal_L194b, f_X8_decimal_L194b, if_pos (show (40 : Int32) ≤ nI 40 by decide), if_pos (show (40 : Int32) ≤ nI 40 by decide)]
    · rw [s_X8_decimal_L194b, if_pos (show (40 : Int32) ≤ nI 40 by decide)]; exact id
  | succ d ih =>
    intro k fuel fl h1 h2
    obtain ⟨f, rfl⟩ : ∃ f, fuel = f + 1 := ⟨fuel - 1, by omega⟩
    have v1 : vp_in (nI k) 40 := vp_in_nI (by omega) (by omega)
    have hk1 : nI k + (1 : Int32) = nI (k + 1) := nI_1 k
    have hk40 : ¬ (40 : Int32) ≤ nI k := nI_ge (b := 40) (by omega) (by omega)
    have hrk := hr k
    have hz : one k = 0 ↔ r k = 0 := by
      rw [ho k (by omega)]
      refine (iI_eq (y := 0) ?_ ?_ (by omega) (by omega)).trans ?_
      · rcases sg_sq ng with z | z <;> rw [z] <;> omega
      · rcases sg_sq ng with z | z <;> rw [z] <;> omega
      · rcases sg_sq ng with z | z <;> rw [z] <;> omega
    cases fl with
    | true =>
      obtain ⟨fl', i1, i2, i3⟩ := ih (k + 1) f true (by omega) (by omega)
      have ht : fl' = true := i1.mpr (Or.inl rfl)
      refine ⟨fl', ⟨fun _ => Or.inl rfl, fun _ => ht⟩, ?_, ?_⟩
      · rw [← i2, f_X8_decimal_L194b, if_neg hk40, if_pos rfl, hk1]
      · rw [s_X8_decimal_L194b, if_neg hk40, if_pos rfl, hk1]; exact i3
    | false =>
      by_cases c : r k = 0
      · obtain ⟨fl', i1, i2, i3⟩ := ih (k + 1) f false (by omega) (by omega)
        refine ⟨fl', i1.trans ⟨fun q => q.elim (fun z => by cases z) (fun z => Or.inr (fun y => z (fun j h3 h4 => y j (by omega) h4))), fun q => q.elim (fun z => by cases z) (fun z => Or.inr (fun y => z (fun j h3 h4 => ?_)))⟩, ?_, ?_⟩
        · by_cases w : j = k
          · rw [w]; exact c
          · exact y j (by omega) h4
        · rw [← i2, f_X8_decimal_L194b, if_neg hk40, if_neg (by decide), nI_clamp (by omega), if_pos (hz.mpr c), hk1]
        · rw [s_X8_decimal_L194b, if_neg hk40, if_neg (by decide), nI_clamp (by omega), if_pos (hz.mpr c), hk1]; exact fun q => ⟨v1, i3 q⟩
      · obtain ⟨fl', i1, i2, i3⟩ := ih (k + 1) f true (by omega) (by omega)
        have ht : fl' = true := i1.mpr (Or.inl rfl)
        refine ⟨fl', ⟨fun _ => Or.inr (fun q => c (q k (by omega) (by omega))), fun _ => ht⟩, ?_, ?_⟩
        · rw [← i2, f_X8_decimal_L194b, if_neg hk40, if_neg (by decide), nI_clamp (by omega), if_neg (fun q => c (hz.mp q)), hk1]
        · rw [s_X8_decimal_L194b, if_neg hk40, if_neg (by decide), nI_clamp (by omega), if_neg (fun q => c (hz.mp q)), hk1]; exact fun q => ⟨v1, i3 q⟩
theorem d112b (b two : rw_) (A C X : Nat → Int) (p1 : Int32) (hX : ∀ k, X k = if p1 = 249 ∨ p1 = 251 then A k - C k else A k + C k) (h2 : ∀ k, k < 40 → two k = iI (C k)) (p2 p3 : Int32) (o : tO) : ∀ (d k fuel : Nat) (one : rw_), k + d = 40 → d < fuel → (∀ j, j < k → one j = iI (X j)) → (∀ j, k ≤ j → j < 40 → one j = iI (A j)) →
    ∃ one' : rw_, (∀ j, j < 40 → one' j = iI (X j)) ∧ f_X8_decimal_L112b b p1 p2 p3 fuel o one two (nI k) = f_X8_decimal_L112b b p1 p2 p3 1 o one' two (nI 40) ∧ (s_X8_decimal_L112b b p1 p2 p3 1 o one' two (nI 40) → s_X8_decimal_L112b b p1 p2 p3 fuel o one two (nI k)) := by
  intro d
  induction d with
  | zero =>
    intro k fuel one h3 h4 h5 h6
    obtain ⟨f, rfl⟩ : ∃ f, fuel = f + 1 := ⟨fuel - 1, by omega⟩
    have hk : k = 40 := by omega
    subst hk
    refine ⟨one, h5, ?_, ?_⟩
    · rw [f_X8_decimal_L112b, f_X8_decimal_L112b, if_pos (show (40 : Int32) ≤ nI 40 by decide), if_pos (show (40 : Int32) ≤ nI 40 by decide)]
    · intro q
      rw [s_X8_decimal_L112b, if_pos (show (40 : Int32) ≤ nI 40 by decide)] at q ⊢
      exact q
  | succ d ih =>
    intro k fuel one h3 h4 h5 h6
    obtain ⟨f, rfl⟩ : ∃ f, fuel = f + 1 := ⟨fuel - 1, by omega⟩
    have hk1 : nI k + (1 : Int32) = nI (k + 1) := nI_1 k
    have hk40 : ¬ (40 : Int32) ≤ nI k := nI_ge (b := 40) (by omega) (by omega)
    have key : ∀ v : Int32, v = iI (X k) → ∃ one' : rw_, (∀ j, j < 40 → one' j = iI (X j)) ∧ f_X8_decimal_L112b b p1 p2 p3 f o (upd one k v) two (nI (k + 1)) = f_X8_decimal_L112b b p1 p2 p3 1 o one' two (nI 40) ∧ (s_X8_decimal_L112b b p1 p2 p3 1 o one' two (nI 40) → s_X8_decimal_L112b b p1 p2 p3 f o (upd one k v) two (nI (k + 1))) := by
      intro v hv
      exact ih (k + 1) f (upd one k v) (by omega) (by omega) (fun j hj => by
        by_cases z : j = k
        · rw [z, pk_us]; exact hv
        · rw [pk_un z]; exact h5 j (by omega)) (fun j h7 h8 => by rw [pk_un (by omega)]; exact h6 j (by omega) h8)
    have hA := h6 k (by omega) (by omega)
    have hC := h2 k (by omega)
    have hXk := hX k
    rw [f_X8_decimal_L112b, s_X8_decimal_L112b, if_neg hk40, if_neg hk40, nI_clamp (by omega), hk1]
    by_cases c9 : p1 = 249
    · rw [if_pos (Or.inl c9)] at hXk
      rw [if_pos c9, if_pos c9]
      exact key _ (by rw [hA, hC, iI_neg, iI_add, hXk]; rfl)
    · rw [if_neg c9, if_neg c9]
      by_cases c1 : p1 = 251
      · rw [if_pos (Or.inr c1)] at hXk
        rw [if_pos c1, if_pos c1]
        exact key _ (by rw [hA, hC, iI_neg, iI_add, hXk]; rfl)
      · rw [if_neg (fun q => q.elim c9 c1)] at hXk
        rw [if_neg c1, if_neg c1]
        exact key _ (by rw [hA, hC, iI_add, hXk])
theorem calcBb (x1 : Bool) (x2 x3 x4 op imm : Int32) (rn : Nat) (sx : Int32) (p : Nat) (opl : Int32) (h249 : ¬ op = 249) (hrn : rn < 16) (hp : p + (rn + 1) ≤ 2048) (B one two D' : rw_) (A C X r : Nat → Int) (ng : Bool) (hX : ∀ k, X k = if op = 249 ∨ op = 251 then A k - C k else A k + C k) (h1 : ∀ k, k < 40 → one k = iI (A k)) (h2 : ∀ k, k < 40 → two k = iI (C k))
    (hr : ∀ k, 0 ≤ r k ∧ r k ≤ 9) (hr32 : ∀ k, 32 ≤ k → r k = 0) (hD : ∀ k, k < 32 → D' k = iI (r k)) (hcase : (tp X 40 = 0 ∧ (∀ k, r k = 0) ∧ ng = false) ∨ (tp X 40 = sg ng ∧ ∃ k, k < 32 ∧ ¬ r k = 0))
    (hset : ∀ one, (∀ j, j < 40 → one j = iI (X j)) → ∃ one', f_X8_settle one = (iI (tp X 40), one') ∧ (∀ j, j < 40 → one' j = iI (sg ng * r j)) ∧ s_X8_settle one) (a1 a2 a3 a4 : Int32) (e w : Bool) (s l : Int32) (R : tR) (ha1 : rg a1 32) :
    ∃ c b3 B' one', f_X3_putPacked (x1, x2, x3, x4, op, imm, nI rn, sx, nI p, opl) ng D' (a1, a2, a3, a4) B = (c, (a1, a2, b3, a4), B') ∧ f_X8_decimal_L112b (uB B) op (nI p) (nI (rn + 1)) (((40 : Int32).toInt - (0 : Int32).toInt).toNat + 1) (a1, a2, a3, a4, e, w, s, l, 0, 0, R) one two 0 = ((a1, a2, b3, a4, e, w, s, l, 0, c, R), uB B', one', two) ∧ rg b3 4 ∧ s_X8_decimal_L112b (uB B) op (nI p) (nI (rn + 1)) (((40 : Int32).toInt - (0 : Int32).toInt).toNat + 1) (a1, a2, a3, a4, e, w, s, l, 0, 0, R) one two 0 := by
  obtain ⟨one1, k1, k2, k3⟩ := d112b (uB B) two A C X op hX h2 (nI p) (nI (rn + 1)) (a1, a2, a3, a4, e, w, s, l, 0, 0, R) 40 0 41 one (by omega) (by omega) (fun j hj => by omega) (fun j _ hj => h1 j hj)
  obtain ⟨one', g1, g2, g3⟩ := hset one1 k1
  have hr1 : nI rn + (1 : Int32) = nI (rn + 1) := nI_1 rn
  have hσ : (iI (tp X 40)).toInt64.toInt = tp X 40 := by
    rw [Int32.toInt_toInt64]
    rcases tp_01 X 40 with q | q | q <;> rw [q] <;> decide
  obtain ⟨B', p1, p2, p3⟩ := stored ng D' B one' r hr hD g2 p (rn + 1) (by omega) (by omega) hp
  have hfu : ((40 : Int32).toInt - ((2 : Int32) * nI (rn + 1) - (1 : Int32)).toInt).toNat + 1 = 40 - (2 * (rn + 1) - 1) + 1 := by
    rw [two_n (rn + 1) (by omega), nI_toInt (by omega), show (40 : Int32).toInt = 40 by decide]
    omega
  obtain ⟨fl, f1, f2, f3⟩ := d194b (uB B) one' two r hr ng g2 (nI p) (nI (rn + 1)) (a1, a2, od (tp X 40) 0, a4, e, w, s, l, 0, 0, R) (40 - (2 * (rn + 1) - 1)) (2 * (rn + 1) - 1) (40 - (2 * (rn + 1) - 1) + 1) false (by omega) (by omega)
  have hex : f_X8_decimal_L112b (uB B) op (nI p) (nI (rn + 1)) (((40 : Int32).toInt - (0 : Int32).toInt).toNat + 1) (a1, a2, a3, a4, e, w, s, l, 0, 0, R) one two 0 = f_X8_decimal_L194b (uB B) (nI p) (nI (rn + 1)) two 1 (a1, a2, od (tp X 40) 0, a4, e, w, s, l, 0, 0, R) one' (nI 40) fl := by
    refine Eq.trans k2 ?_
    rw [f_X8_decimal_L112b, if_pos (show (40 : Int32) ≤ nI 40 by decide), g1]
    simp only [q_let]
    rw [sign_eq, hσ, if_neg h249, hfu, two_n (rn + 1) (by omega), f2]
  have hsx : s_X8_decimal_L112b (uB B) op (nI p) (nI (rn + 1)) (((40 : Int32).toInt - (0 : Int32).toInt).toNat + 1) (a1, a2, a3, a4, e, w, s, l, 0, 0, R) one two 0 := by
    refine k3 ?_
    rw [s_X8_decimal_L112b, if_pos (show (40 : Int32) ≤ nI 40 by decide), g1]
    simp only [q_let]
    rw [sign_eq, hσ, if_neg h249, hfu, two_n (rn + 1) (by omega)]
    exact ⟨g3, f3 p3⟩
  have hwi : f_X1_isWithin D' (nI (2 * (rn + 1) - 1)) = true ↔ ∀ j, 2 * (rn + 1) - 1 ≤ j → j < 40 → r j = 0 := by
    rw [isWithin_iff D' _ (by omega)]
    refine ⟨fun q j h3 h4 => ?_, fun q j h3 h4 => ?_⟩
    · by_cases z : j < 32
      · have h5 := q j h3 z
        have h6 := hr j
        rw [hD j z] at h5
        exact (iI_eq (y := 0) (by omega) (by omega) (by omega) (by omega)).mp h5
      · exact hr32 j (by omega)
    · rw [hD j h4, q j h3 (by omega)]; rfl
  have hsc : f_X1_signCode ng D' = od (tp X 40) 0 := by
    unfold f_X1_signCode
    rcases hcase with ⟨q1, q2, q3⟩ | ⟨q1, k, q2, q3⟩
    · rw [q1, q3, if_neg (by decide), if_pos ((isZero32 D').mpr (fun j hj => by rw [hD j hj, q2 j]; rfl))]; rfl
    · rw [q1]
      cases ng with
      | true => rw [if_pos rfl]; rfl
      | false =>
        rw [if_neg (by decide), if_neg (fun z => q3 ?_)]
        · rfl
        · have h5 := (isZero32 D').mp z k q2
          have h6 := hr k
          rw [hD k q2] at h5
          exact (iI_eq (y := 0) (by omega) (by omega) (by omega) (by omega)).mp h5
  rw [hex, f_X8_decimal_L194b, if_pos (show (40 : Int32) ≤ nI 40 by decide), p2]
  simp only [q_let]
  unfold f_X3_putPacked
  dsimp only
  rw [hr1, p1]
  simp only [q_let]
  by_cases cw : ∀ j, 2 * (rn + 1) - 1 ≤ j → j < 40 → r j = 0
  · have hfl : ¬ fl = true := fun q => (f1.mp q).elim (fun z => by cases z) (fun z => z cw)
    rw [if_pos (hwi.mpr cw), if_neg hfl, hsc]
    exact ⟨0, _, B', one', rfl, rfl, od_rg _ _, hsx⟩
  · have hfl : fl = true := f1.mpr (Or.inr cw)
    have e16 := al16 (a2 := a2) (a3 := 3) (a4 := a4) ha1
    rw [if_neg (fun q => cw (hwi.mp q)), if_pos hfl]
    by_cases ca : f_X5_allows (a1, a2, 3, a4) 16 = true
    · rw [if_pos ca, if_pos (e16.mp ca)]
      exact ⟨10, 3, B', one', rfl, rfl, ⟨by decide, by decide⟩, hsx⟩
    · rw [if_neg ca, if_neg (fun q => ca (e16.mpr q))]
      exact ⟨0, 3, B', one', rfl, rfl, ⟨by decide, by decide⟩, hsx⟩
/-- a comparison -/
theorem cmpP (B one two D E : rw_) (d e : Nat → Int) (hd : ∀ k, 0 ≤ d k ∧ d k ≤ 9) (he : ∀ k, 0 ≤ e k ∧ e k ≤ 9) (hD : ∀ k, k < 32 → D k = iI (d k)) (hE : ∀ k, k < 32 → E k = iI (e k)) (hd31 : ∀ k, 31 ≤ k → d k = 0) (he31 : ∀ k, 31 ≤ k → e k = 0) (n1 n2 : Bool) (hn1 : n1 = true → ∃ k, k < 31 ∧ ¬ d k = 0) (hn2 : n2 = true → ∃ k, k < 31 ∧ ¬ e k = 0)
    (h1 : ∀ k, k < 40 → one k = iI (sg n1 * d k)) (h2 : ∀ k, k < 40 → two k = iI (sg n2 * e k)) (p2 p3 a1 a2 a3 a4 : Int32) (e' w : Bool) (s l : Int32) (R : tR) :
    ∃ one', f_X8_decimal_L112 (uB B) 249 p2 p3 (((40 : Int32).toInt - (0 : Int32).toInt).toNat + 1) (a1, a2, a3, a4, e', w, s, l, 0, 0, R) one two 0 = ((a1, a2, f_X1_orderWith n1 D n2 E, a4, e', w, s, l, 0, 0, R), uB B, one', two) ∧ rg (f_X1_orderWith n1 D n2 E) 4 ∧ s_X8_decimal_L112 (uB B) 249 p2 p3 (((40 : Int32).toInt - (0 : Int32).toInt).toNat + 1) (a1, a2, a3, a4, e', w, s, l, 0, 0, R) one two 0 := by
  obtain ⟨X, hXd⟩ : ∃ X : Nat → Int, X = fun k => sg n1 * d k - sg n2 * e k := ⟨_, rfl⟩
  have hXk : ∀ k, X k = sg n1 * d k - sg n2 * e k := fun k => by rw [hXd]
  obtain ⟨one1, k1, k2, k3⟩ := d112 (uB B) two (fun k => sg n1 * d k) (fun k => sg n2 * e k) X 249 (fun k => by rw [hXk, if_pos (Or.inl rfl)]) h2 p2 p3 (a1, a2, a3, a4, e', w, s, l, 0, 0, R) 40 0 41 one (by omega) (by omega) (fun j hj => by omega) (fun j _ hj => h1 j hj)
  have hXr : ∀ k, -18 ≤ X k ∧ X k ≤ 18 := fun k => by
    have h3 := hd k
    have h4 := he k
    rw [hXk k]
    rcases sg_sq n1 with q | q <;> rcases sg_sq n2 with p | p <;> rw [q, p] <;> omega
  have hX31 : ∀ k, 31 ≤ k → X k = 0 := fun k hk => by rw [hXk k, hd31 k hk, he31 k hk]; omega
  have hX0 : tp X 40 = 0 → ∀ k, X k = 0 := fun q k => by
    by_cases z : k < 40
    · exact tp_0 X 40 q k z
    · exact hX31 k (by omega)
  obtain ⟨one', g1, -, -, g4⟩ := settle_eq X (fun k => tp X 40 * X k) hXr (fun k => rfl) hX0 one1 k1
  have hσ : (iI (tp X 40)).toInt64.toInt = tp X 40 := by
    rw [Int32.toInt_toInt64]
    rcases tp_01 X 40 with q | q | q <;> rw [q] <;> decide
  have ht : tp X 40 = tp X 32 := tp_up X 32 8 (fun j hj => hX31 j (by omega))
  have how : f_X1_orderWith n1 D n2 E = od (tp X 40) 0 := by
    unfold f_X1_orderWith
    cases n1 with
    | false =>
      cases n2 with
      | false =>
        rw [if_pos rfl, if_neg (by decide), ood_eq D E d e hd he hD hE, ht]
        congr 1
        exact tp_ext _ _ _ (fun j _ => by rw [hXk]; show d j - e j = 1 * d j - 1 * e j; omega)
      | true =>
        rw [if_neg (by decide), if_neg (by decide)]
        obtain ⟨k, q1, q2⟩ := hn2 rfl
        have hpos := tp_pos X (fun j => by have := hd j; have := he j; rw [hXk]; show 0 ≤ 1 * d j - -1 * e j; omega) 40
        rcases hpos with q | q
        · have h5 := hX0 q k
          have h6 := hd k
          have h7 := he k
          rw [hXk] at h5
          have h8 : 1 * d k - -1 * e k = 0 := h5
          omega
        · rw [q]; rfl
    | true =>
      cases n2 with
      | true =>
        rw [if_pos rfl, if_pos rfl, ood_eq E D e d he hd hE hD, ht]
        congr 1
        exact tp_ext _ _ _ (fun j _ => by rw [hXk]; show e j - d j = -1 * d j - -1 * e j; omega)
      | false =>
        rw [if_neg (by decide), if_pos rfl]
        obtain ⟨k, q1, q2⟩ := hn1 rfl
        have hpos := tp_pos (fun j => -X j) (fun j => by have := hd j; have := he j; show 0 ≤ -X j; rw [hXk]; show 0 ≤ -(-1 * d j - 1 * e j); omega) 40
        rw [tp_neg] at hpos
        rcases hpos with q | q
        · have h5 := hX0 (by omega) k
          have h6 := hd k
          have h7 := he k
          rw [hXk] at h5
          have h8 : -1 * d k - 1 * e k = 0 := h5
          omega
        · rw [show tp X 40 = -1 by omega]; rfl
  rw [how]
  refine ⟨one', ?_, od_rg _ _, k3 ?_⟩
  · refine Eq.trans k2 ?_
    rw [f_X8_decimal_L112, if_pos (show (40 : Int32) ≤ nI 40 by decide), g1]
    simp only [q_let]
    rw [sign_eq, hσ, if_pos trivial]
  · rw [s_X8_decimal_L112, if_pos (show (40 : Int32) ≤ nI 40 by decide), g1]
    simp only [q_let]
    rw [if_pos trivial]
    exact ⟨g4, trivial⟩
/-- the digits of an int -/
def dgt : Nat → Nat → Nat
  | m, 0 => m % 10
  | m, i + 1 => dgt (m / 10) i
theorem dgt_le (m i : Nat) : dgt m i ≤ 9 := by
  induction i generalizing m with
  | zero => rw [dgt]; omega
  | succ i ih => rw [dgt]; exact ih _
theorem dgt_0 (i : Nat) : dgt 0 i = 0 := by
  induction i with
  | zero => rfl
  | succ i ih => rw [dgt]; exact ih
theorem sg_div (ng : Bool) (m : Nat) (hm : m ≤ 2147483648) (hn : ng = false → m < 2147483648) : iI (sg ng * m) / (10 : Int32) = iI (sg ng * (m / 10 : Nat)) ∧ iI (sg ng * m) - iI (sg ng * m) / (10 : Int32) * (10 : Int32) = iI (sg ng * (m % 10 : Nat)) := by
  have h10 : (10 : Int32) = iI 10 := by decide
  have h1 : iI (sg ng * m) / (10 : Int32) = iI (sg ng * (m / 10 : Nat)) := by
    have hb : (iI (sg ng * m)).toInt = sg ng * m := by
      cases ng with
      | false => have := hn rfl; exact iI_toInt (by rw [show sg false = 1 from rfl]; omega) (by rw [show sg false = 1 from rfl]; omega)
      | true => exact iI_toInt (by rw [show sg true = -1 from rfl]; omega) (by rw [show sg true = -1 from rfl]; omega)
    rw [q_eq, Int32.toInt_div_of_ne_right _ _ (by decide), hb, show (10 : Int32).toInt = 10 by decide]
    cases ng with
    | false =>
      rw [show sg false = 1 from rfl, Int.one_mul, Int.one_mul, iI_n, nI_toInt (by omega)]
      exact (Int.ofNat_tdiv m 10).symm
    | true =>
      rw [show sg true = -1 from rfl, show (-1 : Int) * (m : Int) = -(m : Int) by omega, show (-1 : Int) * ((m / 10 : Nat) : Int) = -((m / 10 : Nat) : Int) by omega, iI_toInt (by omega) (by omega), Int.neg_tdiv]
      congr 1
  refine ⟨h1, ?_⟩
  rw [h1, h10, iI_mul, iI_sub]
  congr 1
  have : (m : Int) = 10 * ((m / 10 : Nat) : Int) + ((m % 10 : Nat) : Int) := by omega
  rcases sg_sq ng with z | z <;> rw [z] <;> omega
theorem spread_loop (ng : Bool) : ∀ (d k fuel : Nat) (m : Nat) (one : rw_), m ≤ 2147483648 → (ng = false → m < 2147483648) → k + d = 40 → d < fuel →
    ∃ one', f_X8_spread_L4 fuel one (nI k) (iI (sg ng * m)) = one' ∧ (∀ j, j < k → one' j = one j) ∧ (∀ j, k ≤ j → j < 40 → one' j = iI (sg ng * (dgt m (j - k) : Nat))) := by
  intro d
  induction d with
  | zero =>
    intro k fuel m one hm hn h1 h2
    obtain ⟨f, rfl⟩ : ∃ f, fuel = f + 1 := ⟨fuel - 1, by omega⟩
    exact ⟨one, by rw [f_X8_spread_L4, if_pos (show (40 : Int32) ≤ nI k from nI_le (a := 40) (by omega) (by omega))], fun j _ => rfl, fun j h3 h4 => by omega⟩
  | succ d ih =>
    intro k fuel m one hm hn h1 h2
    obtain ⟨f, rfl⟩ : ∃ f, fuel = f + 1 := ⟨fuel - 1, by omega⟩
    obtain ⟨e1, e2⟩ := sg_div ng m hm hn
    obtain ⟨one', i1, i2, i3⟩ := ih (k + 1) f (m / 10) (upd one k (iI (sg ng * (m % 10 : Nat)))) (by omega) (fun q => by have := hn q; omega) (by omega) (by omega)
    refine ⟨one', ?_, fun j hj => ?_, fun j h3 h4 => ?_⟩
    · rw [f_X8_spread_L4, if_neg (show ¬ (40 : Int32) ≤ nI k from nI_ge (b := 40) (by omega) (by omega)), nI_clamp (by omega), e2, e1, show nI k + (1 : Int32) = nI (k + 1) from nI_1 k]; exact i1
    · rw [i2 j (by omega), pk_un (by omega)]
    · by_cases z : j = k
      · subst z; rw [i2 j (by omega), pk_us, Nat.sub_self, dgt]
      · rw [i3 j (by omega) h4, show j - k = (j - (k + 1)) + 1 by omega, dgt]
theorem become_loop (ng : Bool) : ∀ (d k fuel : Nat) (m : Nat) (D : rw_), m ≤ 2147483648 → k + d = 32 → d < fuel →
    ∃ D', f_X1_becomeInt_L22 fuel ng D (nI k) (lN m) = (ng, D') ∧ (∀ j, j < k → D' j = D j) ∧ (∀ j, k ≤ j → j < 32 → D' j = nI (dgt m (j - k))) := by
  intro d
  induction d with
  | zero =>
    intro k fuel m D hm h1 h2
    obtain ⟨f, rfl⟩ : ∃ f, fuel = f + 1 := ⟨fuel - 1, by omega⟩
    exact ⟨D, by rw [f_X1_becomeInt_L22, if_pos (show (32 : Int32) ≤ nI k from nI_le (a := 32) (by omega) (by omega))], fun j _ => rfl, fun j h3 h4 => by omega⟩
  | succ d ih =>
    intro k fuel m D hm h1 h2
    obtain ⟨f, rfl⟩ : ∃ f, fuel = f + 1 := ⟨fuel - 1, by omega⟩
    have e1 : lN m - lN m / (10 : Int64) * (10 : Int64) = lN (m % 10) := pk_lRem (b := 10) (by omega) (by omega) (by omega)
    have e2 : lN m / (10 : Int64) = lN (m / 10) := pk_lDiv (b := 10) (by omega) (by omega) (by omega)
    have e3 : (lN (m % 10)).toInt32 = nI (m % 10) := by rw [← nI_l (by omega), lg_l2i_i2l]
    obtain ⟨D', i1, i2, i3⟩ := ih (k + 1) f (m / 10) (upd D k (nI (m % 10))) (by omega) (by omega) (by omega)
    refine ⟨D', ?_, fun j hj => ?_, fun j h3 h4 => ?_⟩
    · rw [f_X1_becomeInt_L22, if_neg (show ¬ (32 : Int32) ≤ nI k from nI_ge (b := 32) (by omega) (by omega)), nI_clamp (by omega), e1, e2, e3, show nI k + (1 : Int32) = nI (k + 1) from nI_1 k]; exact i1
    · rw [i2 j (by omega), pk_un (by omega)]
    · by_cases z : j = k
      · subst z; rw [i2 j (by omega), pk_us, Nat.sub_self, dgt]
      · rw [i3 j (by omega) h4, show j - k = (j - (k + 1)) + 1 by omega, dgt]
/-- an int made a packed number, both sides -/
theorem become_eq (D one : rw_) (x : Int32) : ∃ (ng : Bool) (m : Nat) (D' : rw_), f_X1_becomeInt D x = (ng, D') ∧ (∀ k, k < 32 → D' k = iI ((dgt m k : Nat) : Int)) ∧ (∀ k, k < 40 → f_X8_spread one x k = iI (sg ng * ((dgt m k : Nat) : Int))) ∧ (x = 0 → ng = false ∧ m = 0) := by
  have hr := q_rng x
  have l0 : (0 : Int64).toInt = 0 := by decide
  by_cases c : 0 ≤ x
  · have c2 : 0 ≤ x.toInt := by rw [q_le, q_0] at c; exact c
    obtain ⟨m, hm⟩ : ∃ m : Nat, (m : Int) = x.toInt := ⟨x.toInt.toNat, Int.toNat_of_nonneg c2⟩
    have hx : x = iI (sg false * m) := by rw [q_eq, show sg false = 1 from rfl, Int.one_mul, iI_n, nI_toInt (by omega), hm]
    have hl : (if 0 < x.toInt64 then x.toInt64 else -x.toInt64) = lN m := by
      refine Int64.toInt_inj.mp ?_
      rw [pk_lT (by omega)]
      by_cases z : 0 < x.toInt64
      · rw [if_pos z, Int32.toInt_toInt64, hm]
      · rw [if_neg z]
        rw [Int64.lt_iff_toInt_lt, Int32.toInt_toInt64] at z
        have h0 : x = 0 := by rw [q_eq, q_0]; omega
        rw [h0] at hm ⊢
        rw [q_0] at hm
        rw [hm]; decide
    obtain ⟨D', g1, -, g3⟩ := become_loop false 32 0 33 m D (by omega) (by omega) (by omega)
    obtain ⟨one', g4, -, g6⟩ := spread_loop false 40 0 41 m one (by omega) (fun _ => by omega) (by omega) (by omega)
    refine ⟨false, m, D', ?_, fun k hk => by rw [g3 k (by omega) hk, iI_n]; rfl, fun k hk => ?_, fun q => ⟨rfl, ?_⟩⟩
    · unfold f_X1_becomeInt
      rw [if_pos c, hl]; exact g1
    · have : f_X8_spread one x = one' := by
        unfold f_X8_spread
        rw [hx]; exact g4
      rw [this]; exact g6 k (by omega) hk
    · rw [q, q_0] at hm; omega
  · have c2 : ¬ 0 ≤ x.toInt := fun q => c (by rw [q_le, q_0]; exact q)
    obtain ⟨m, hm⟩ : ∃ m : Nat, (m : Int) = -x.toInt := ⟨(-x.toInt).toNat, Int.toNat_of_nonneg (by omega)⟩
    have hx : x = iI (sg true * m) := by rw [q_eq, show sg true = -1 from rfl, iI_toInt (by omega) (by omega)]; omega
    have hl : (if 0 < x.toInt64 then x.toInt64 else -x.toInt64) = lN m := by
      refine Int64.toInt_inj.mp ?_
      rw [pk_lT (by omega), if_neg (fun z => by rw [Int64.lt_iff_toInt_lt, Int32.toInt_toInt64] at z; omega), Int64.toInt_neg, Int32.toInt_toInt64, hm]
      rw [Int.bmod_def]
      split <;> omega
    obtain ⟨D', g1, -, g3⟩ := become_loop true 32 0 33 m D (by omega) (by omega) (by omega)
    obtain ⟨one', g4, -, g6⟩ := spread_loop true 40 0 41 m one (by omega) (fun q => by cases q) (by omega) (by omega)
    refine ⟨true, m, D', ?_, fun k hk => by rw [g3 k (by omega) hk, iI_n]; rfl, fun k hk => ?_, fun q => ?_⟩
    · unfold f_X1_becomeInt
      rw [if_neg c, hl]; exact g1
    · have : f_X8_spread one x = one' := by
        unfold f_X8_spread
        rw [hx]; exact g4
      rw [this]; exact g6 k (by omega) hk
    · rw [q, q_0] at c2; omega
