/-! the class's digits: loops -/
theorem isZero_loop (D : rw_) (m : Nat) (hm : m < 2 ^ 30) : ∀ (d k fuel : Nat), k + d = 32 → d < fuel → (f_X1_isZero_L2 D (nI m) fuel (nI k) = true ↔ ∀ j, k ≤ j → j < m → j < 32 → D j = 0) := by
  intro d
  induction d with
  | zero =>
    intro k fuel h1 h2
    obtain ⟨f, rfl⟩ : ∃ f, fuel = f + 1 := ⟨fuel - 1, by omega⟩
    rw [f_X1_isZero_L2, if_pos (c := (32 : Int32) ≤ nI k) (nI_le (a := 32) (by omega) (by omega)), ite_self]
    exact ⟨fun _ j h3 h4 h5 => by omega, fun _ => rfl⟩
  | succ d ih =>
    intro k fuel h1 h2
    obtain ⟨f, rfl⟩ : ∃ f, fuel = f + 1 := ⟨fuel - 1, by omega⟩
    have i1 := ih (k + 1) f (by omega) (by omega)
    rw [f_X1_isZero_L2, if_neg (c := (32 : Int32) ≤ nI k) (nI_ge (b := 32) (by omega) (by omega)), nI_clamp (by omega), show nI k + (1 : Int32) = nI (k + 1) from nI_1 k]
    by_cases c1 : m ≤ k
    · rw [if_pos (nI_le c1 (by omega))]
      exact ⟨fun _ j h3 h4 h5 => by omega, fun _ => rfl⟩
    · rw [if_neg (nI_ge (by omega) (by omega))]
      by_cases c2 : D k = 0
      · rw [if_pos c2, i1]
        refine ⟨fun q j h3 h4 h5 => ?_, fun q j h3 h4 h5 => q j (by omega) h4 h5⟩
        by_cases z : j = k
        · rw [z]; exact c2
        · exact q j (by omega) h4 h5
      · rw [if_neg c2]
        exact ⟨fun q => (by cases q), fun q => absurd (q k (by omega) (by omega) (by omega)) c2⟩
theorem isZero_iff (D : rw_) (m : Nat) (hm : m < 2 ^ 30) : f_X1_isZero D (nI m) = true ↔ ∀ j, j < m → j < 32 → D j = 0 := by
  have := isZero_loop D m hm 32 0 33 (by omega) (by omega)
  exact this.trans ⟨fun q j h4 h5 => q j (by omega) h4 h5, fun q j _ h4 h5 => q j h4 h5⟩
theorem isZero32 (D : rw_) : f_X1_isZero D 32 = true ↔ ∀ j, j < 32 → D j = 0 := by
  have := isZero_iff D 32 (by omega)
  exact Iff.trans this ⟨fun q j h => q j h h, fun q j h _ => q j h⟩
theorem isWithin_loop (D : rw_) (m : Nat) (hm : m < 2 ^ 30) : ∀ (k fuel : Nat), k ≤ 32 → k < fuel → (f_X1_isWithin_L3 D (nI m) fuel (iI ((k : Int) - 1)) = true ↔ ∀ j, m ≤ j → j < k → D j = 0) := by
  intro k
  induction k with
  | zero =>
    intro fuel _ h2
    obtain ⟨f, rfl⟩ : ∃ f, fuel = f + 1 := ⟨fuel - 1, by omega⟩
    rw [show iI (((0 : Nat) : Int) - 1) = -1 by decide, f_X1_isWithin_L3, if_pos (show (-1 : Int32) < nI m by rw [q_lt, nI_toInt (by omega), q_m1]; omega)]
    exact ⟨fun _ j h3 h4 => by omega, fun _ => rfl⟩
  | succ k ih =>
    intro fuel hk h2
    obtain ⟨f, rfl⟩ : ∃ f, fuel = f + 1 := ⟨fuel - 1, by omega⟩
    have e0 : iI (((k + 1 : Nat) : Int) - 1) = nI k := by rw [← iI_n]; congr 1; omega
    have e1 : nI k + (-1) = iI ((k : Int) - 1) := by rw [← iI_n, show (-1 : Int32) = iI (-1) by decide, iI_add]; rfl
    have i1 := ih f (by omega) (by omega)
    rw [e0, f_X1_isWithin_L3, if_neg (c := nI k < 0) (nI_pos (by omega)), nI_clamp (by omega), e1]
    by_cases c1 : k < m
    · rw [if_pos (nI_lt c1 (by omega))]
      exact ⟨fun _ j h3 h4 => by omega, fun _ => rfl⟩
    · rw [if_neg (nI_nlt (by omega) (by omega))]
      by_cases c2 : D k = 0
      · rw [if_pos c2, i1]
        refine ⟨fun q j h3 h4 => ?_, fun q j h3 h4 => q j h3 (by omega)⟩
        by_cases z : j = k
        · rw [z]; exact c2
        · exact q j h3 (by omega)
      · rw [if_neg c2]
        exact ⟨fun q => (by cases q), fun q => absurd (q k (by omega) (by omega)) c2⟩
theorem isWithin_iff (D : rw_) (m : Nat) (hm : m < 2 ^ 30) : f_X1_isWithin D (nI m) = true ↔ ∀ j, m ≤ j → j < 32 → D j = 0 := isWithin_loop D m hm 32 33 (by omega) (by omega)
theorem ood_loop (D E : rw_) (d e : Nat → Int) (hd : ∀ k, 0 ≤ d k ∧ d k ≤ 9) (he : ∀ k, 0 ≤ e k ∧ e k ≤ 9) (hD : ∀ k, k < 32 → D k = iI (d k)) (hE : ∀ k, k < 32 → E k = iI (e k)) : ∀ (k fuel : Nat), k ≤ 32 → k < fuel → f_X1_orderOfDigits_L3 D E fuel (iI ((k : Int) - 1)) = od (tp (fun j => d j - e j) k) 0 := by
  intro k
  induction k with
  | zero =>
    intro fuel _ h2
    obtain ⟨f, rfl⟩ : ∃ f, fuel = f + 1 := ⟨fuel - 1, by omega⟩
    rw [show iI (((0 : Nat) : Int) - 1) = -1 by decide, f_X1_orderOfDigits_L3, if_pos (by decide)]
    rfl
  | succ k ih =>
    intro fuel hk h2
    obtain ⟨f, rfl⟩ : ∃ f, fuel = f + 1 := ⟨fuel - 1, by omega⟩
    have e0 : iI (((k + 1 : Nat) : Int) - 1) = nI k := by rw [← iI_n]; congr 1; omega
    have e1 : nI k + (-1) = iI ((k : Int) - 1) := by rw [← iI_n, show (-1 : Int32) = iI (-1) by decide, iI_add]; rfl
    have i1 := ih f (by omega) (by omega)
    have h3 := hd k
    have h4 := he k
    rw [e0, f_X1_orderOfDigits_L3, if_neg (c := nI k < 0) (nI_pos (by omega)), nI_clamp (by omega), e1, hD k (by omega), hE k (by omega), tp]
    have z1 : iI (d k) = iI (e k) ↔ d k = e k := iI_eq (by omega) (by omega) (by omega) (by omega)
    have z2 : iI (e k) ≤ iI (d k) ↔ e k ≤ d k := iI_le (by omega) (by omega) (by omega) (by omega)
    by_cases c1 : d k = e k
    · rw [if_pos (z1.mpr c1), if_pos (show d k - e k = 0 by omega)]
      exact i1
    · rw [if_neg (fun q => c1 (z1.mp q)), if_neg (show ¬ d k - e k = 0 by omega)]
      by_cases c2 : e k ≤ d k
      · rw [if_pos (z2.mpr c2), if_pos (show 0 ≤ d k - e k by omega)]
        rfl
      · rw [if_neg (fun q => c2 (z2.mp q)), if_neg (show ¬ 0 ≤ d k - e k by omega)]
        rfl
theorem ood_eq (D E : rw_) (d e : Nat → Int) (hd : ∀ k, 0 ≤ d k ∧ d k ≤ 9) (he : ∀ k, 0 ≤ e k ∧ e k ≤ 9) (hD : ∀ k, k < 32 → D k = iI (d k)) (hE : ∀ k, k < 32 → E k = iI (e k)) : f_X1_orderOfDigits D E = od (tp (fun j => d j - e j) 32) 0 := ood_loop D E d e hd he hD hE 32 33 (by omega) (by omega)
theorem addD (E : rw_) (d e : Nat → Int) (hd : ∀ k, 0 ≤ d k ∧ d k ≤ 9) (he : ∀ k, 0 ≤ e k ∧ e k ≤ 9) (hE : ∀ k, k < 32 → E k = iI (e k)) (x : Nat → Int) (hx : x = fun j => d j + e j) : ∀ (n k fuel : Nat) (D : rw_), k + n = 32 → n < fuel → (∀ j, k ≤ j → j < 32 → D j = iI (d j)) →
    ∃ D', f_X1_addDigits_L4 E fuel D (nI k) (iI (ca x k)) = D' ∧ (∀ j, j < k → D' j = D j) ∧ (∀ j, k ≤ j → j < 32 → D' j = iI (yd x j)) := by
  intro n
  induction n with
  | zero =>
    intro k fuel D h1 h2 h3
    obtain ⟨f, rfl⟩ : ∃ f, fuel = f + 1 := ⟨fuel - 1, by omega⟩
    refine ⟨D, ?_, fun j _ => rfl, fun j h4 h5 => by omega⟩
    rw [f_X1_addDigits_L4, if_pos (show (32 : Int32) ≤ nI k from nI_le (a := 32) (by omega) (by omega))]
  | succ n ih =>
    intro k fuel D h1 h2 h3
    obtain ⟨f, rfl⟩ : ∃ f, fuel = f + 1 := ⟨fuel - 1, by omega⟩
    have h4 := hd k
    have h5 := he k
    have hc := ca_rg x k
    have hxk : x k = d k + e k := by rw [hx]
    obtain ⟨v, hv⟩ : ∃ v, v = x k + ca x k := ⟨_, rfl⟩
    have hval : D k + E k + iI (ca x k) = iI v := by
      rw [h3 k (by omega) (by omega), hE k (by omega)]
      simp only [iI_add, iI_sub]
      congr 1
      omega
    have hs := ca_sum x (fun j => by have := hd j; have := he j; rw [hx]; show 0 ≤ d j + e j; omega) k
    have key : ∀ (c : Int) (ci cj : Int32), ci = iI (c) → cj = iI (c) → ca x (k + 1) = c → ∃ D', f_X1_addDigits_L4 E f (upd D k (iI v - (10 : Int32) * ci)) (nI (k + 1)) cj = D' ∧ (∀ j, j < k → D' j = D j) ∧ (∀ j, k ≤ j → j < 32 → D' j = iI (yd x j)) := by
      intro c ci cj hci hcj hcc
      obtain ⟨D', i1, i2, i3⟩ := ih (k + 1) f (upd D k (iI v - (10 : Int32) * ci)) (by omega) (by omega) (fun j h6 h7 => by rw [pk_un (by omega)]; exact h3 j (by omega) h7)
      refine ⟨D', ?_, fun j hj => ?_, fun j h6 h7 => ?_⟩
      · rw [hcj, ← hcc]; exact i1
      · rw [i2 j (by omega), pk_un (by omega)]
      · by_cases z : j = k
        · subst z
          rw [i2 j (by omega), pk_us, hci, show (10 : Int32) = iI 10 by decide, iI_mul]
          unfold yd
          rw [hcc, ← hv]
          simp only [iI_add, iI_sub] <;> (congr 1 <;> omega)
        · exact i3 j (by omega) h7
    rw [f_X1_addDigits_L4, if_neg (show ¬ (32 : Int32) ≤ nI k from nI_ge (b := 32) (by omega) (by omega)), nI_clamp (by omega), show nI k + (1 : Int32) = nI (k + 1) from nI_1 k, hval]
    have b9 : iI v ≤ (9 : Int32) ↔ v ≤ 9 := iI_le (y := 9) (by omega) (by omega) (by omega) (by omega)
    by_cases c9 : v ≤ 9
    · rw [if_pos (b9.mpr c9)]
      exact key 0 0 0 (by decide) (by decide) (by rw [ca, ← hv, if_pos c9, if_pos (by omega)])
    · rw [if_neg (fun q => c9 (b9.mp q))]
      exact key 1 1 1 (by decide) (by decide) (by rw [ca, ← hv, if_neg c9])
theorem difS (E : rw_) (d e : Nat → Int) (hd : ∀ k, 0 ≤ d k ∧ d k ≤ 9) (he : ∀ k, 0 ≤ e k ∧ e k ≤ 9) (hE : ∀ k, k < 32 → E k = iI (e k)) (x : Nat → Int) (hx : x = fun j => e j - d j) : ∀ (n k fuel : Nat) (D : rw_), k + n = 32 → n < fuel → (∀ j, k ≤ j → j < 32 → D j = iI (d j)) →
    ∃ D', f_X1_takeDifferenceS_L5 E fuel D (nI k) (iI (-ca x k)) = D' ∧ (∀ j, j < k → D' j = D j) ∧ (∀ j, k ≤ j → j < 32 → D' j = iI (yd x j)) := by
  intro n
  induction n with
  | zero =>
    intro k fuel D h1 h2 h3
    obtain ⟨f, rfl⟩ : ∃ f, fuel = f + 1 := ⟨fuel - 1, by omega⟩
    refine ⟨D, ?_, fun j _ => rfl, fun j h4 h5 => by omega⟩
    rw [f_X1_takeDifferenceS_L5, if_pos (show (32 : Int32) ≤ nI k from nI_le (a := 32) (by omega) (by omega))]
  | succ n ih =>
    intro k fuel D h1 h2 h3
    obtain ⟨f, rfl⟩ : ∃ f, fuel = f + 1 := ⟨fuel - 1, by omega⟩
    have h4 := hd k
    have h5 := he k
    have hc := ca_rg x k
    have hxk : x k = e k - d k := by rw [hx]
    obtain ⟨v, hv⟩ : ∃ v, v = x k + ca x k := ⟨_, rfl⟩
    have hval : E k - D k - iI (-ca x k) = iI v := by
      rw [h3 k (by omega) (by omega), hE k (by omega)]
      simp only [iI_add, iI_sub]
      congr 1
      omega
    have hs := ca_dif x (fun j => by have := hd j; have := he j; rw [hx]; show e j - d j ≤ 9; omega) k
    have key : ∀ (c : Int) (ci cj : Int32), ci = iI (-c) → cj = iI (-c) → ca x (k + 1) = c → ∃ D', f_X1_takeDifferenceS_L5 E f (upd D k (iI v + (10 : Int32) * ci)) (nI (k + 1)) cj = D' ∧ (∀ j, j < k → D' j = D j) ∧ (∀ j, k ≤ j → j < 32 → D' j = iI (yd x j)) := by
      intro c ci cj hci hcj hcc
      obtain ⟨D', i1, i2, i3⟩ := ih (k + 1) f (upd D k (iI v + (10 : Int32) * ci)) (by omega) (by omega) (fun j h6 h7 => by rw [pk_un (by omega)]; exact h3 j (by omega) h7)
      refine ⟨D', ?_, fun j hj => ?_, fun j h6 h7 => ?_⟩
      · rw [hcj, ← hcc]; exact i1
      · rw [i2 j (by omega), pk_un (by omega)]
      · by_cases z : j = k
        · subst z
          rw [i2 j (by omega), pk_us, hci, show (10 : Int32) = iI 10 by decide, iI_mul]
          unfold yd
          rw [hcc, ← hv]
          simp only [iI_add, iI_sub] <;> (congr 1 <;> omega)
        · exact i3 j (by omega) h7
    rw [f_X1_takeDifferenceS_L5, if_neg (show ¬ (32 : Int32) ≤ nI k from nI_ge (b := 32) (by omega) (by omega)), nI_clamp (by omega), show nI k + (1 : Int32) = nI (k + 1) from nI_1 k, hval]
    have b0 : (0 : Int32) ≤ iI v ↔ 0 ≤ v := iI_le (x := 0) (by omega) (by omega) (by omega) (by omega)
    by_cases c0 : 0 ≤ v
    · rw [if_pos (b0.mpr c0)]
      exact key 0 0 0 (by decide) (by decide) (by rw [ca, ← hv, if_pos (by omega), if_pos c0])
    · rw [if_neg (fun q => c0 (b0.mp q))]
      exact key (-1) 1 1 (by decide) (by decide) (by rw [ca, ← hv, if_pos (by omega), if_neg c0])
theorem difL (E : rw_) (d e : Nat → Int) (hd : ∀ k, 0 ≤ d k ∧ d k ≤ 9) (he : ∀ k, 0 ≤ e k ∧ e k ≤ 9) (hE : ∀ k, k < 32 → E k = iI (e k)) (x : Nat → Int) (hx : x = fun j => d j - e j) : ∀ (n k fuel : Nat) (D : rw_), k + n = 32 → n < fuel → (∀ j, k ≤ j → j < 32 → D j = iI (d j)) →
    ∃ D', f_X1_takeDifferenceL_L5 E fuel D (nI k) (iI (-ca x k)) = D' ∧ (∀ j, j < k → D' j = D j) ∧ (∀ j, k ≤ j → j < 32 → D' j = iI (yd x j)) := by
  intro n
  induction n with
  | zero =>
    intro k fuel D h1 h2 h3
    obtain ⟨f, rfl⟩ : ∃ f, fuel = f + 1 := ⟨fuel - 1, by omega⟩
    refine ⟨D, ?_, fun j _ => rfl, fun j h4 h5 => by omega⟩
    rw [f_X1_takeDifferenceL_L5, if_pos (show (32 : Int32) ≤ nI k from nI_le (a := 32) (by omega) (by omega))]
  | succ n ih =>
    intro k fuel D h1 h2 h3
    obtain ⟨f, rfl⟩ : ∃ f, fuel = f + 1 := ⟨fuel - 1, by omega⟩
    have h4 := hd k
    have h5 := he k
    have hc := ca_rg x k
    have hxk : x k = d k - e k := by rw [hx]
    obtain ⟨v, hv⟩ : ∃ v, v = x k + ca x k := ⟨_, rfl⟩
    have hval : D k - E k - iI (-ca x k) = iI v := by
      rw [h3 k (by omega) (by omega), hE k (by omega)]
      simp only [iI_add, iI_sub]
      congr 1
      omega
    have hs := ca_dif x (fun j => by have := hd j; have := he j; rw [hx]; show d j - e j ≤ 9; omega) k
    have key : ∀ (c : Int) (ci cj : Int32), ci = iI (-c) → cj = iI (-c) → ca x (k + 1) = c → ∃ D', f_X1_takeDifferenceL_L5 E f (upd D k (iI v + (10 : Int32) * ci)) (nI (k + 1)) cj = D' ∧ (∀ j, j < k → D' j = D j) ∧ (∀ j, k ≤ j → j < 32 → D' j = iI (yd x j)) := by
      intro c ci cj hci hcj hcc
      obtain ⟨D', i1, i2, i3⟩ := ih (k + 1) f (upd D k (iI v + (10 : Int32) * ci)) (by omega) (by omega) (fun j h6 h7 => by rw [pk_un (by omega)]; exact h3 j (by omega) h7)
      refine ⟨D', ?_, fun j hj => ?_, fun j h6 h7 => ?_⟩
      · rw [hcj, ← hcc]; exact i1
      · rw [i2 j (by omega), pk_un (by omega)]
      · by_cases z : j = k
        · subst z
          rw [i2 j (by omega), pk_us, hci, show (10 : Int32) = iI 10 by decide, iI_mul]
          unfold yd
          rw [hcc, ← hv]
          simp only [iI_add, iI_sub] <;> (congr 1 <;> omega)
        · exact i3 j (by omega) h7
    rw [f_X1_takeDifferenceL_L5, if_neg (show ¬ (32 : Int32) ≤ nI k from nI_ge (b := 32) (by omega) (by omega)), nI_clamp (by omega), show nI k + (1 : Int32) = nI (k + 1) from nI_1 k, hval]
    have b0 : (0 : Int32) ≤ iI v ↔ 0 ≤ v := iI_le (x := 0) (by omega) (by omega) (by omega) (by omega)
    by_cases c0 : 0 ≤ v
    · rw [if_pos (b0.mpr c0)]
      exact key 0 0 0 (by decide) (by decide) (by rw [ca, ← hv, if_pos (by omega), if_pos c0])
    · rw [if_neg (fun q => c0 (b0.mp q))]
      exact key (-1) 1 1 (by decide) (by decide) (by rw [ca, ← hv, if_pos (by omega), if_neg c0])
