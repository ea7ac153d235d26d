/-! a packed number made an int, both sides -/
def lI (x : Int) : Int64 := Int64.ofInt x
theorem lI_add (x y : Int) : lI x + lI y = lI (x + y) := (Int64.ofInt_add x y).symm
theorem lI_mul (x y : Int) : lI x * lI y = lI (x * y) := (Int64.ofInt_mul x y).symm
theorem lI_neg (x : Int) : -lI x = lI (-x) := (Int64.ofInt_neg x).symm
theorem iI_lI {z : Int} (h1 : -1000 ≤ z) (h2 : z ≤ 1000) : (iI z).toInt64 = lI z := by
  refine Int64.toInt_inj.mp ?_
  rw [Int32.toInt_toInt64, iI_toInt (by omega) (by omega)]
  unfold lI
  rw [Int64.toInt_ofInt, Int.bmod_def, show (Int64.size : Int) = 18446744073709551616 from rfl]
  split <;> omega
theorem val_loop (ng : Bool) (D one : rw_) (d : Nat → Int) (hd : ∀ k, 0 ≤ d k ∧ d k ≤ 9) (hD : ∀ k, k < 32 → D k = iI (d k)) (ho : ∀ k, k < 40 → one k = iI (sg ng * d k)) (reg : rw_) (p1 : Int32) (o : tO) : ∀ (k fuel : Nat) (c : Int), k ≤ 15 → k < fuel →
    ∃ c', f_X1_value_L5 ng D fuel (iI ((k : Int) - 1)) (lI c) = lI (sg ng * c') ∧ f_X8_toBinary_L31 reg p1 fuel o one (iI ((k : Int) - 1)) (lI (sg ng * c)) = f_X8_toBinary_L31 reg p1 1 o one (-1) (lI (sg ng * c')) ∧ (s_X8_toBinary_L31 p1 1 o one (-1) (lI (sg ng * c')) → s_X8_toBinary_L31 p1 fuel o one (iI ((k : Int) - 1)) (lI (sg ng * c))) := by
  intro k
  induction k with
  | zero =>
    intro fuel c _ h2
    obtain ⟨f, rfl⟩ : ∃ f, fuel = f + 1 := ⟨fuel - 1, by omega⟩
    have h1 : iI (((0 : Nat) : Int) - 1) = -1 := by decide
    rw [h1]
    refine ⟨c, ?_, ?_, ?_⟩
    · rw [f_X1_value_L5, if_pos (show (-1 : Int32) < 0 by decide)]
      cases ng with
      | true => rw [if_pos rfl, lI_neg, show sg true = -1 from rfl]; congr 1; omega
      | false => rw [if_neg (by decide), show sg false = 1 from rfl, Int.one_mul]
    · rw [f_X8_toBinary_L31, f_X8_toBinary_L31, if_pos (show (-1 : Int32) < 0 by decide), if_pos (show (-1 : Int32) < 0 by decide)]
    · intro q
      rw [s_X8_toBinary_L31, if_pos (show (-1 : Int32) < 0 by decide)] at q ⊢
      exact q
  | succ k ih =>
    intro fuel c hk h2
    obtain ⟨f, rfl⟩ : ∃ f, fuel = f + 1 := ⟨fuel - 1, by omega⟩
    have e0 : iI (((k + 1 : Nat) : Int) - 1) = nI k := by rw [← iI_n]; congr 1; omega
    have e1 : nI k + (-1) = iI ((k : Int) - 1) := by rw [← iI_n, show (-1 : Int32) = iI (-1) by decide, iI_add]; rfl
    have hdk := hd k
    have z1 : lI c * (10 : Int64) + (D k).toInt64 = lI (c * 10 + d k) := by
      rw [hD k (by omega), iI_lI (by omega) (by omega), show (10 : Int64) = lI 10 by decide, lI_mul, lI_add]
    have z2 : (10 : Int64) * lI (sg ng * c) + (one k).toInt64 = lI (sg ng * (c * 10 + d k)) := by
      rw [ho k (by omega), iI_lI (by rcases sg_sq ng with z | z <;> rw [z] <;> omega) (by rcases sg_sq ng with z | z <;> rw [z] <;> omega), show (10 : Int64) = lI 10 by decide, lI_mul, lI_add]
      congr 1
      rcases sg_sq ng with z | z <;> rw [z] <;> omega
    obtain ⟨c', i1, i2, i3⟩ := ih f (c * 10 + d k) (by omega) (by omega)
    refine ⟨c', ?_, ?_, ?_⟩
    · rw [e0, f_X1_value_L5, if_neg (nI_pos (by omega)), nI_clamp (by omega), e1, z1]; exact i1
    · rw [← i2, e0, f_X8_toBinary_L31, if_neg (nI_pos (by omega)), nI_clamp (by omega), e1, z2]
    · intro q
      rw [e0, s_X8_toBinary_L31, if_neg (nI_pos (by omega)), nI_clamp (by omega), e1, z2]
      exact ⟨vp_in_nI (by omega) (by omega), i3 q⟩
theorem bad31 (reg : rw_) (p1 : Int32) (a1 a2 a3 a4 : Int32) (e w : Bool) (s l t : Int32) (R : tR) (one : rw_) : ∀ (k fuel : Nat) (x : Int64), k ≤ 15 → k < fuel →
    f_X8_toBinary_L31b reg p1 fuel (a1, a2, a3, a4, e, w, s, l, 7, t, R) one (iI ((k : Int) - 1)) x = ((a1, a2, a3, a4, e, w, s, l, 7, t, R), one, reg) ∧ s_X8_toBinary_L31b p1 fuel (a1, a2, a3, a4, e, w, s, l, 7, t, R) one (iI ((k : Int) - 1)) x := by
  intro k
  induction k with
  | zero =>
    intro fuel x _ h2
    obtain ⟨f, rfl⟩ : ∃ f, fuel = f + 1 := ⟨fuel - 1, by omega⟩
    have h1 : iI (((0 : Nat) : Int) - 1) = -1 := by decide
    have h7 : ¬ (7 : Int32) = 0 := by decide
    rw [h1, f_X8_toBinary_L31b, s_X8_toBinary_L31b, if_pos (show (-1 : Int32) < 0 by decide), if_pos (show (-1 : Int32) < 0 by decide)]
    simp only [q_let, wr_n _ _ _ _ _ _ _ _ _ _ _ _ _ h7, wr_f, if_neg h7, ite_self]
    exact ⟨trivial, trivial⟩
  | succ k ih =>
    intro fuel x hk h2
    obtain ⟨f, rfl⟩ : ∃ f, fuel = f + 1 := ⟨fuel - 1, by omega⟩
    have e0 : iI (((k + 1 : Nat) : Int) - 1) = nI k := by rw [← iI_n]; congr 1; omega
    have e1 : nI k + (-1) = iI ((k : Int) - 1) := by rw [← iI_n, show (-1 : Int32) = iI (-1) by decide, iI_add]; rfl
    obtain ⟨i1, i2⟩ := ih f ((10 : Int64) * x + (one k).toInt64) (by omega) (by omega)
    rw [e0, f_X8_toBinary_L31b, s_X8_toBinary_L31b, if_neg (nI_pos (by omega)), if_neg (nI_pos (by omega)), nI_clamp (by omega), e1]
    exact ⟨i1, vp_in_nI (by omega) (by omega), i2⟩
