/-! the next record: the reference's three loops -/
def shf (r : rw_) (k n m : Nat) : rw_ := fun j => if k ≤ j ∧ j < n then r (j + m) else r j
theorem shf_0 (r : rw_) (n m : Nat) : shf r n n m = r := by
  funext j
  unfold shf
  rw [if_neg (by omega)]
theorem shf_s (r : rw_) (k n m : Nat) (hk : k < n) (hm : 0 < m) : shf (upd r k (r (k + m))) (k + 1) n m = shf r k n m := by
  funext j
  unfold shf upd
  by_cases h1 : k + 1 ≤ j ∧ j < n
  · rw [if_pos h1, if_neg (show ¬ j + m = k by omega), if_pos (show k ≤ j ∧ j < n by omega)]
  · rw [if_neg h1]
    by_cases h2 : j = k
    · rw [if_pos h2, if_pos (show k ≤ j ∧ j < n by omega), h2]
    · rw [if_neg h2, if_neg (show ¬ (k ≤ j ∧ j < n) by omega)]
def cpy16 (tk card : rw_) (k : Nat) : rw_ := fun j => if k ≤ j ∧ j < 16 then card j else tk j
theorem cpy_s (tk card : rw_) (k : Nat) (hk : k < 16) : cpy16 (upd tk k (card k)) card (k + 1) = cpy16 tk card k := by
  funext j
  unfold cpy16 upd
  by_cases h1 : k + 1 ≤ j ∧ j < 16
  · rw [if_pos h1, if_pos (by omega)]
  · rw [if_neg h1]
    by_cases h2 : j = k
    · rw [if_pos h2, if_pos (by omega), h2]
    · rw [if_neg h2, if_neg (by omega)]
/-- behind the third loop -/
def opD (b : rw_) (o : tO) (tk card : rw_) (filled : rw_) : tO × rw_ × rw_ × rw_ × rw_ := f_X8_open_L107 b o tk card 1 filled (nI 9)
def opS (b : rw_) (o : tO) (filled : rw_) : Prop := s_X8_open_L107 b o 1 filled (nI 9)
theorem op107 (b : rw_) (o : tO) (tk card : rw_) : ∀ (d k : Nat) (filled : rw_) (fuel : Nat), k + d = 9 → d < fuel → f_X8_open_L107 b o tk card fuel filled (nI k) = opD b o tk card (shf filled k 9 1) ∧ (opS b o (shf filled k 9 1) → s_X8_open_L107 b o fuel filled (nI k)) := by
  intro d
  induction d with
  | zero =>
    intro k filled fuel hk hf
    obtain ⟨g, rfl⟩ : ∃ g, fuel = g + 1 := ⟨fuel - 1, by omega⟩
    have e : k = 9 := by omega
    subst e
    have c : (9 : Int32) ≤ nI 9 := by decide
    rw [shf_0]
    unfold opD opS
    constructor
    · rw [f_X8_open_L107, f_X8_open_L107, if_pos c, if_pos c]
    · intro h
      rw [s_X8_open_L107, if_pos c] at h
      rw [s_X8_open_L107, if_pos c]
      exact h
  | succ d ih =>
    intro k filled fuel hk hf
    obtain ⟨g, rfl⟩ : ∃ g, fuel = g + 1 := ⟨fuel - 1, by omega⟩
    have c : ¬ (9 : Int32) ≤ nI k := nI_ge (b := 9) (by omega) (by omega)
    have e1 : nI k + (1 : Int32) = nI (k + 1) := nI_1 k
    rw [f_X8_open_L107, s_X8_open_L107, if_neg c, if_neg c, e1, nI_clamp (by omega), nI_clamp (by omega)]
    obtain ⟨x1, x2⟩ := ih (k + 1) (upd filled k (filled (k + 1))) g (by omega) (by omega)
    rw [shf_s filled k 9 1 (by omega) (by omega)] at x1 x2
    exact ⟨x1, fun h => ⟨vp_in_nI (by omega) (by omega), vp_in_nI (by omega) (by omega), x2 h⟩⟩
theorem op77 (b filled : rw_) (o : tO) (tk : rw_) : ∀ (d k : Nat) (card : rw_) (fuel : Nat), k + d = 144 → d < fuel → f_X8_open_L77 b filled o tk fuel card (nI k) = opD b o tk (shf card k 144 16) (shf filled 0 9 1) ∧ (opS b o (shf filled 0 9 1) → s_X8_open_L77 b filled o fuel card (nI k)) := by
  intro d
  induction d with
  | zero =>
    intro k card fuel hk hf
    obtain ⟨g, rfl⟩ : ∃ g, fuel = g + 1 := ⟨fuel - 1, by omega⟩
    have e : k = 144 := by omega
    subst e
    have c : (144 : Int32) ≤ nI 144 := by decide
    rw [shf_0, f_X8_open_L77, s_X8_open_L77, if_pos c, if_pos c]
    exact op107 b o tk card 9 0 filled _ rfl (by decide)
  | succ d ih =>
    intro k card fuel hk hf
    obtain ⟨g, rfl⟩ : ∃ g, fuel = g + 1 := ⟨fuel - 1, by omega⟩
    have c : ¬ (144 : Int32) ≤ nI k := nI_ge (b := 144) (by omega) (by omega)
    have e1 : nI k + (1 : Int32) = nI (k + 1) := nI_1 k
    have e16 : nI k + (16 : Int32) = nI (k + 16) := nI_add k 16
    rw [f_X8_open_L77, s_X8_open_L77, if_neg c, if_neg c, e1, e16, nI_clamp (by omega), nI_clamp (by omega)]
    obtain ⟨x1, x2⟩ := ih (k + 1) (upd card k (card (k + 16))) g (by omega) (by omega)
    rw [shf_s card k 144 16 (by omega) (by omega)] at x1
    exact ⟨x1, fun h => ⟨vp_in_nI (by omega) (by omega), vp_in_nI (by omega) (by omega), x2 h⟩⟩
theorem op51 (b card filled : rw_) (o : tO) : ∀ (d k : Nat) (tk : rw_) (fuel : Nat), k + d = 16 → d < fuel → f_X8_open_L51 b card filled fuel o tk (nI k) = opD b o (cpy16 tk card k) (shf card 0 144 16) (shf filled 0 9 1) ∧ (opS b o (shf filled 0 9 1) → s_X8_open_L51 b card filled fuel o tk (nI k)) := by
  intro d
  induction d with
  | zero =>
    intro k tk fuel hk hf
    obtain ⟨g, rfl⟩ : ∃ g, fuel = g + 1 := ⟨fuel - 1, by omega⟩
    have e : k = 16 := by omega
    subst e
    have c : (16 : Int32) ≤ nI 16 := by decide
    have h0 : cpy16 tk card 16 = tk := by funext j; unfold cpy16; rw [if_neg (by omega)]
    rw [h0, f_X8_open_L51, s_X8_open_L51, if_pos c, if_pos c]
    exact op77 b filled o tk 144 0 card _ rfl (by decide)
  | succ d ih =>
    intro k tk fuel hk hf
    obtain ⟨g, rfl⟩ : ∃ g, fuel = g + 1 := ⟨fuel - 1, by omega⟩
    have c : ¬ (16 : Int32) ≤ nI k := nI_ge (b := 16) (by omega) (by omega)
    have e1 : nI k + (1 : Int32) = nI (k + 1) := nI_1 k
    rw [f_X8_open_L51, s_X8_open_L51, if_neg c, if_neg c, e1, nI_clamp (by omega)]
    obtain ⟨x1, x2⟩ := ih (k + 1) (upd tk k (card k)) g (by omega) (by omega)
    rw [cpy_s tk card k (by omega)] at x1
    exact ⟨x1, fun h => ⟨vp_in_nI (by omega) (by omega), x2 h⟩⟩
