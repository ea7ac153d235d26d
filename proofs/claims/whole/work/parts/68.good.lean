/-! a fault of an operand: told first, told by both -/
theorem wr_f (o : tO) (n : Int32) : f_X8_wrong o false n = o := rfl
theorem wr_t (a1 a2 a3 a4 : Int32) (e w : Bool) (s l t : Int32) (R : tR) (n : Int32) : f_X8_wrong (a1, a2, a3, a4, e, w, s, l, 0, t, R) true n = (a1, a2, a3, a4, e, w, s, l, n, t, R) := by
  unfold f_X8_wrong
  dsimp only
  rw [if_pos rfl, if_pos rfl]
theorem wr_n (a1 a2 a3 a4 : Int32) (e w : Bool) (s l f t : Int32) (R : tR) (c : Bool) (n : Int32) (h : ¬ f = 0) : f_X8_wrong (a1, a2, a3, a4, e, w, s, l, f, t, R) c n = (a1, a2, a3, a4, e, w, s, l, f, t, R) := by
  unfold f_X8_wrong
  dsimp only
  rw [if_neg h, ite_self]
theorem good_bad1 (K : rw_) (p1 p2 : Int32) (p4 : Bool) (m : Nat) (o : tO) (x : Int32) (h : ¬ o.2.2.2.2.2.2.2.2.1 = 0) : f_X8_good_L39b K p1 p2 p4 (m + 1) o x = (false, o) ∧ f_X8_good_L39bb K p1 p2 p4 (m + 1) o x = (false, o) ∧ f_X8_good_L39bbb K p1 p2 p4 (m + 1) o x = (false, o) ∧ f_X8_good_L39 K p1 p2 p4 (m + 1) o x = (false, o) := by
  refine ⟨?_, ?_, ?_, ?_⟩
  · rw [f_X8_good_L39b]; simp only [if_neg h, ite_self]
  · rw [f_X8_good_L39bb]; simp only [if_neg h, ite_self]
  · rw [f_X8_good_L39bbb]; simp only [if_neg h, ite_self]
  · rw [f_X8_good_L39]; simp only [if_neg h, ite_self]
theorem sgood_bad1 (K : rw_) (p1 p2 : Int32) (p4 : Bool) (m : Nat) (o : tO) (x : Int32) (h : ¬ o.2.2.2.2.2.2.2.2.1 = 0) : s_X8_good_L39b K p1 p2 p4 m o x ∧ s_X8_good_L39bb K p1 p2 p4 m o x ∧ s_X8_good_L39bbb K p1 p2 p4 m o x ∧ s_X8_good_L39 K p1 p2 p4 m o x := by
  cases m with
  | zero => exact ⟨trivial, trivial, trivial, trivial⟩
  | succ m =>
    refine ⟨?_, ?_, ?_, ?_⟩
    · rw [s_X8_good_L39b]; simp only [if_neg h, ite_self]
    · rw [s_X8_good_L39bb]; simp only [if_neg h, ite_self]
    · rw [s_X8_good_L39bbb]; simp only [if_neg h, ite_self]
    · rw [s_X8_good_L39]; simp only [if_neg h, ite_self]
theorem good_loop (K : rw_) (a n : Nat) (hn : n ≤ 256) (ha : a + n ≤ 2048) (a1 key a3 a4 : Int32) (hk : ¬ key = 0) (e w : Bool) (s l t : Int32) (R : tR) : ∀ (d k fuel : Nat), k + d = n → d < fuel →
    ((∀ j, k ≤ j → j < n → K ((a + j) / 256) = key) → f_X8_good_L39 K (nI a) (nI n) true fuel (a1, key, a3, a4, e, w, s, l, 0, t, R) (nI k) = (true, (a1, key, a3, a4, e, w, s, l, 0, t, R))) ∧
    ((¬ ∀ j, k ≤ j → j < n → K ((a + j) / 256) = key) → f_X8_good_L39 K (nI a) (nI n) true fuel (a1, key, a3, a4, e, w, s, l, 0, t, R) (nI k) = (false, (a1, key, a3, a4, e, w, s, l, 4, t, R))) ∧
    s_X8_good_L39 K (nI a) (nI n) true fuel (a1, key, a3, a4, e, w, s, l, 0, t, R) (nI k) := by
  intro d
  induction d with
  | zero =>
    intro k fuel h1 h2
    obtain ⟨m, rfl⟩ : ∃ m, fuel = m + 1 := ⟨fuel - 1, by omega⟩
    have c : nI n ≤ nI k := nI_le (by omega) (by omega)
    refine ⟨fun _ => ?_, fun q => absurd (fun j h3 h4 => by omega) q, ?_⟩
    · rw [f_X8_good_L39, if_pos c]
      dsimp only
      rw [if_pos rfl]
    · rw [s_X8_good_L39, if_pos c]
      trivial
  | succ d ih =>
    intro k fuel h1 h2
    obtain ⟨m, rfl⟩ : ∃ m, fuel = m + 1 := ⟨fuel - 1, by omega⟩
    have c : ¬ nI n ≤ nI k := nI_ge (by omega) (by omega)
    have e1 : nI a + nI k = nI (a + k) := nI_add a k
    have e2 : nI (a + k) / (256 : Int32) = nI ((a + k) / 256) := pk_div (d := 256) (by omega) (by omega) (by omega)
    have e3 : (nI ((a + k) / 256)).toNatClampNeg = (a + k) / 256 := nI_clamp (by omega)
    have e4 : nI k + (1 : Int32) = nI (k + 1) := nI_1 k
    obtain ⟨i1, i2, i3⟩ := ih (k + 1) m (by omega) (by omega)
    by_cases ck : K ((a + k) / 256) = key
    · have hh : (∀ j, k ≤ j → j < n → K ((a + j) / 256) = key) ↔ (∀ j, k + 1 ≤ j → j < n → K ((a + j) / 256) = key) := by
        refine ⟨fun q j h3 h4 => q j (by omega) h4, fun q j h3 h4 => ?_⟩
        by_cases z : j = k
        · rw [z]; exact ck
        · exact q j (by omega) h4
      rw [hh, f_X8_good_L39, s_X8_good_L39, if_neg c, if_neg c]
      dsimp only
      rw [if_pos rfl, if_pos rfl, if_neg hk, if_neg hk, if_pos rfl, if_pos rfl, e1, e2, e3, if_pos ck, if_pos ck, wr_f, e4]
      exact ⟨i1, i2, vp_in_nI (by omega) (by omega), i3⟩
    · have hh : ¬ (∀ j, k ≤ j → j < n → K ((a + j) / 256) = key) := fun q => ck (q k (by omega) (by omega))
      rw [f_X8_good_L39, s_X8_good_L39, if_neg c, if_neg c]
      dsimp only
      rw [if_pos rfl, if_pos rfl, if_neg hk, if_neg hk, if_pos rfl, if_pos rfl, e1, e2, e3, if_neg ck, if_neg ck, wr_t, e4]
      obtain ⟨m', rfl⟩ : ∃ m', m = m' + 1 := ⟨m - 1, by omega⟩
      refine ⟨fun q => absurd q hh, fun _ => ?_, vp_in_nI (by omega) (by omega), ?_⟩
      · exact (good_bad1 K _ _ _ m' (a1, key, a3, a4, e, w, s, l, 4, t, R) _ (show ¬ (4 : Int32) = 0 by decide)).2.2.2
      · exact (sgood_bad1 K _ _ _ (m' + 1) (a1, key, a3, a4, e, w, s, l, 4, t, R) _ (show ¬ (4 : Int32) = 0 by decide)).2.2.2
/-- the class's fault -/
def fl (st : Bool) (T : tT) (K : rw_) (p n m : Int32) : Int32 := if st = true then f_X3_storeFault T K p n m else f_X3_readFault p n m
theorem blk_iff (K : rw_) (a n : Nat) (key : Int32) (hn : 1 ≤ n) : (∀ i, a / 256 ≤ i → i ≤ (a + n - 1) / 256 → K i = key) ↔ (∀ j, 0 ≤ j → j < n → K ((a + j) / 256) = key) := by
  refine ⟨fun q j _ h => q _ (Nat.div_le_div_right (by omega)) (Nat.div_le_div_right (by omega)), fun q i h1 h2 => ?_⟩
  by_cases c : i * 256 ≤ a
  · have : i = (a + 0) / 256 := by omega
    rw [this]
    exact q 0 (by omega) (by omega)
  · have h3 : i * 256 ≤ a + n - 1 := by omega
    have : i = (a + (i * 256 - a)) / 256 := by omega
    rw [this]
    exact q (i * 256 - a) (by omega) (by omega)
theorem read_eq (a n m k : Nat) (ha : a < 2 ^ 24) (hn : n ≤ 256) (hm : m = 2 ^ k) (hk : k ≤ 3) : f_X3_readFault (nI a) (nI n) (nI m) = if a % m = 0 then (if a + n ≤ 2048 then 0 else 5) else 6 := by
  have hm8 : 1 ≤ m ∧ m ≤ 8 := by
    have : k = 0 ∨ k = 1 ∨ k = 2 ∨ k = 3 := by omega
    rcases this with h | h | h | h <;> subst h <;> subst hm <;> decide
  have e1 : nI m - (1 : Int32) = nI (m - 1) := pk_sub (b := 1) hm8.1
  have e2 : nI a &&& nI (m - 1) = nI (a % m) := by
    rw [hm]
    exact pk_andN (by omega) k (pk_tn (by rw [← hm]; omega))
  have hlt : a % m < m := Nat.mod_lt _ (by omega)
  have e3 : (nI (a % m) = 0) ↔ a % m = 0 := nI_eq (b := 0) (by omega) (by omega)
  have e4 : (2048 : Int32) - nI n = nI (2048 - n) := pk_sub (a := 2048) (by omega)
  have e5 : (nI (2048 - n) < nI a) ↔ ¬ a + n ≤ 2048 := by rw [nI_ltI (by omega) (by omega)]; omega
  unfold f_X3_readFault f_X6_holds
  rw [e1, e2, if_neg (nI_pos (by omega)), e4]
  by_cases c : a % m = 0
  · rw [if_pos (e3.mpr c), if_pos c]
    by_cases c2 : a + n ≤ 2048
    · rw [if_neg (fun q => e5.mp q c2), if_pos rfl, if_pos c2]
    · rw [if_pos (e5.mpr c2), if_neg (by decide), if_neg c2]
  · rw [if_neg (fun q => c (e3.mp q)), if_neg c]
theorem good_eq (K : rw_) (a n m k : Nat) (ha : a < 2 ^ 24) (hn1 : 1 ≤ n) (hn : n ≤ 256) (hm : m = 2 ^ k) (hk : k ≤ 3) (st : Bool) (a1 a2 a3 a4 : Int32) (e w : Bool) (s l t : Int32) (R : tR) :
    (fl st (a1, a2, a3, a4) K (nI a) (nI n) (nI m) = 0 → f_X8_good (a1, a2, a3, a4, e, w, s, l, 0, t, R) K (nI a) (nI n) (nI m) st = (true, (a1, a2, a3, a4, e, w, s, l, 0, t, R)) ∧ a % m = 0 ∧ a + n ≤ 2048) ∧
    (∀ c, fl st (a1, a2, a3, a4) K (nI a) (nI n) (nI m) = c → ¬ c = 0 → f_X8_good (a1, a2, a3, a4, e, w, s, l, 0, t, R) K (nI a) (nI n) (nI m) st = (false, (a1, a2, a3, a4, e, w, s, l, c, t, R)) ∧ ¬ c ≤ 0) ∧
    s_X8_good (a1, a2, a3, a4, e, w, s, l, 0, t, R) K (nI a) (nI n) (nI m) st := by
  have hm8 : 1 ≤ m ∧ m ≤ 8 := by
    have : k = 0 ∨ k = 1 ∨ k = 2 ∨ k = 3 := by omega
    rcases this with h | h | h | h <;> subst h <;> subst hm <;> decide
  have hlt : a % m < m := Nat.mod_lt _ (by omega)
  have e1 : nI a - nI a / nI m * nI m = nI (a % m) := pk_rem (by omega) (by omega) (by omega)
  have e3 : (nI (a % m) = 0) ↔ a % m = 0 := nI_eq (b := 0) (by omega) (by omega)
  have e4 : nI a + nI n = nI (a + n) := nI_add a n
  have e5 : (nI (a + n) ≤ (2048 : Int32)) ↔ a + n ≤ 2048 := nI_leI (b := 2048) (by omega) (by omega)
  have e6 : ¬ nI m = 0 := nI_ne0 (by omega) (by omega)
  have e7 : ((nI n).toInt - (0 : Int32).toInt).toNat + 1 = n + 1 := fuel_n (by omega)
  have hr := read_eq a n m k ha hn hm hk
  unfold f_X8_good s_X8_good
  simp only [q_let]
  rw [e1, e4, e7]
  by_cases c1 : a % m = 0
  · rw [if_pos (e3.mpr c1), if_pos (e3.mpr c1)]
    by_cases c2 : a + n ≤ 2048
    · rw [if_pos (e5.mpr c2), if_pos (e5.mpr c2)]
      simp only [wr_f]
      rw [if_pos c1, if_pos c2] at hr
      cases st with
      | false =>
        have hf : fl false (a1, a2, a3, a4) K (nI a) (nI n) (nI m) = 0 := hr
        rw [hf]
        refine ⟨fun _ => ⟨?_, c1, c2⟩, fun c q1 q2 => absurd q1.symm q2, e6, ?_⟩
        · rw [f_X8_good_L39, if_neg (show ¬ nI n ≤ (0 : Int32) from nI_ge (a := 0) (by omega) (by omega)), if_neg (by decide)]
          dsimp only
          rw [if_pos rfl]
        · rw [s_X8_good_L39, if_neg (show ¬ nI n ≤ (0 : Int32) from nI_ge (a := 0) (by omega) (by omega)), if_neg (by decide)]
          trivial
      | true =>
        have hf : fl true (a1, a2, a3, a4) K (nI a) (nI n) (nI m) = if f_X6_isOpen K (nI a) (nI n) a2 = true then 0 else 4 := by
          unfold fl f_X3_storeFault
          rw [if_pos rfl, hr, if_pos rfl]
        have hi := isOpen_iff K a n a2 hn1 c2
        by_cases ck : a2 = 0
        · rw [hf, if_pos (hi.mpr (Or.inl ck))]
          refine ⟨fun _ => ⟨?_, c1, c2⟩, fun c q1 q2 => absurd q1.symm q2, e6, ?_⟩
          · rw [f_X8_good_L39, if_neg (show ¬ nI n ≤ (0 : Int32) from nI_ge (a := 0) (by omega) (by omega)), if_pos rfl]
            dsimp only
            rw [if_pos ck, if_pos rfl]
          · rw [s_X8_good_L39, if_neg (show ¬ nI n ≤ (0 : Int32) from nI_ge (a := 0) (by omega) (by omega)), if_pos rfl]
            dsimp only
            rw [if_pos ck]
            trivial
        · obtain ⟨g1, g2, g3⟩ := good_loop K a n hn c2 a1 a2 a3 a4 ck e w s l t R n 0 (n + 1) (by omega) (by omega)
          by_cases cl : ∀ j, 0 ≤ j → j < n → K ((a + j) / 256) = a2
          · rw [hf, if_pos (hi.mpr (Or.inr ((blk_iff K a n a2 hn1).mpr cl)))]
            exact ⟨fun _ => ⟨g1 cl, c1, c2⟩, fun c q1 q2 => absurd q1.symm q2, e6, g3⟩
          · rw [hf, if_neg (fun q => (hi.mp q).elim ck (fun z => cl ((blk_iff K a n a2 hn1).mp z)))]
            refine ⟨fun q => absurd q (by decide), fun c q1 q2 => ?_, e6, g3⟩
            rw [← q1]
            exact ⟨g2 cl, by decide⟩
    · rw [if_neg (fun q => c2 (e5.mp q)), if_neg (fun q => c2 (e5.mp q)), wr_f, wr_t]
      rw [if_pos c1, if_neg c2] at hr
      have hf : fl st (a1, a2, a3, a4) K (nI a) (nI n) (nI m) = 5 := by
        unfold fl f_X3_storeFault
        rw [hr]
        cases st <;> rfl
      rw [hf]
      refine ⟨fun q => absurd q (by decide), fun c q1 q2 => ?_, e6, (sgood_bad1 K _ _ _ _ (a1, a2, a3, a4, e, w, s, l, 5, t, R) _ (show ¬ (5 : Int32) = 0 by decide)).1⟩
      rw [← q1]
      exact ⟨(good_bad1 K _ _ _ _ (a1, a2, a3, a4, e, w, s, l, 5, t, R) _ (show ¬ (5 : Int32) = 0 by decide)).1, by decide⟩
  · rw [if_neg (fun q => c1 (e3.mp q)), if_neg (fun q => c1 (e3.mp q)), wr_t, wr_n _ _ _ _ _ _ _ _ _ _ _ _ _ (show ¬ (6 : Int32) = 0 by decide), wr_n _ _ _ _ _ _ _ _ _ _ _ _ _ (show ¬ (6 : Int32) = 0 by decide)]
    rw [if_neg c1] at hr
    have hf : fl st (a1, a2, a3, a4) K (nI a) (nI n) (nI m) = 6 := by
      unfold fl f_X3_storeFault
      rw [hr]
      cases st <;> rfl
    rw [hf]
    refine ⟨fun q => absurd q (by decide), fun c q1 q2 => ?_, e6, ?_⟩
    · rw [← q1, (good_bad1 K _ _ _ _ (a1, a2, a3, a4, e, w, s, l, 6, t, R) _ (show ¬ (6 : Int32) = 0 by decide)).2.1, (good_bad1 K _ _ _ _ (a1, a2, a3, a4, e, w, s, l, 6, t, R) _ (show ¬ (6 : Int32) = 0 by decide)).2.2.1, ite_self]
      exact ⟨rfl, by decide⟩
    · exact ite_ok (sgood_bad1 K _ _ _ _ (a1, a2, a3, a4, e, w, s, l, 6, t, R) _ (show ¬ (6 : Int32) = 0 by decide)).2.1 (sgood_bad1 K _ _ _ _ (a1, a2, a3, a4, e, w, s, l, 6, t, R) _ (show ¬ (6 : Int32) = 0 by decide)).2.2.1
