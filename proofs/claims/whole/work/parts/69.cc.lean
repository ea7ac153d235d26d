/-! the condition code, both ways -/
def od (x y : Int) : Int32 := if x = y then 0 else if y ≤ x then 2 else 1
theorem od_rg (x y : Int) : rg (od x y) 4 := by
  unfold od
  split
  · exact ⟨by decide, by decide⟩
  · split
    · exact ⟨by decide, by decide⟩
    · exact ⟨by decide, by decide⟩
theorem order_eq (x y : Int64) : f_X7_order x y = od x.toInt y.toInt := by
  unfold f_X7_order od
  have e1 : lg_cmp x y = 0 ↔ x.toInt = y.toInt := (lg_cmp_eq x y).trans Int64.toInt_inj.symm
  have e2 : 0 ≤ lg_cmp x y ↔ y.toInt ≤ x.toInt := (lg_cmp_ge x y).trans Int64.le_iff_toInt_le
  by_cases c1 : x.toInt = y.toInt
  · rw [if_pos (e1.mpr c1), if_pos c1]
  · rw [if_neg (fun q => c1 (e1.mp q)), if_neg c1]
    by_cases c2 : y.toInt ≤ x.toInt
    · rw [if_pos (e2.mpr c2), if_pos c2]
    · rw [if_neg (fun q => c2 (e2.mp q)), if_neg c2]
theorem orderI (x y : Int32) : f_X7_order x.toInt64 y.toInt64 = od x.toInt y.toInt := by rw [order_eq, Int32.toInt_toInt64, Int32.toInt_toInt64]
theorem order0 (x : Int32) : f_X7_order x.toInt64 0 = od x.toInt 0 := by rw [order_eq, Int32.toInt_toInt64]; rfl
theorem cmp_eq (a1 a2 a3 a4 : Int32) (e w : Bool) (s l f t : Int32) (R : tR) (x y : Int32) : f_X8_compared (a1, a2, a3, a4, e, w, s, l, f, t, R) x y = (a1, a2, od x.toInt y.toInt, a4, e, w, s, l, f, t, R) := by
  unfold f_X8_compared od
  dsimp only
  by_cases c1 : x = y
  · rw [if_pos c1, if_pos (q_eq.mp c1)]
  · rw [if_neg c1, if_neg (fun q => c1 (q_eq.mpr q))]
    by_cases c2 : y ≤ x
    · rw [if_pos c2, if_pos (q_le.mp c2)]
    · rw [if_neg c2, if_neg (fun q => c2 (q_le.mpr q))]
theorem sign_eq (a1 a2 a3 a4 : Int32) (e w : Bool) (s l f t : Int32) (R : tR) (x : Int64) : f_X8_sign (a1, a2, a3, a4, e, w, s, l, f, t, R) x = (a1, a2, od x.toInt 0, a4, e, w, s, l, f, t, R) := by
  unfold f_X8_sign od
  dsimp only
  have e1 : lg_cmp x 0 = 0 ↔ x.toInt = 0 := (lg_cmp_eq x 0).trans Int64.toInt_inj.symm
  have e2 : 0 ≤ lg_cmp x 0 ↔ 0 ≤ x.toInt := (lg_cmp_ge x 0).trans Int64.le_iff_toInt_le
  by_cases c1 : x.toInt = 0
  · rw [if_pos (e1.mpr c1), if_pos c1]
  · rw [if_neg (fun q => c1 (e1.mp q)), if_neg c1]
    by_cases c2 : 0 ≤ x.toInt
    · rw [if_pos (e2.mpr c2), if_pos c2]
    · rw [if_neg (fun q => c2 (e2.mp q)), if_neg c2]
def l01 (x : Int32) : Int32 := if x = 0 then 0 else 1
theorem l01_rg (x : Int32) : rg (l01 x) 4 := by
  unfold l01
  split
  · exact ⟨by decide, by decide⟩
  · exact ⟨by decide, by decide⟩
theorem logic_eq (a1 a2 a3 a4 : Int32) (e w : Bool) (s l f t : Int32) (R : tR) (x : Int32) : f_X8_logic (a1, a2, a3, a4, e, w, s, l, f, t, R) x = (x, (a1, a2, l01 x, a4, e, w, s, l, f, t, R)) := by
  unfold f_X8_logic l01
  dsimp only
  by_cases c1 : x = 0
  · rw [if_pos c1, if_pos c1]
  · rw [if_neg c1, if_neg c1]
/-- a register, both ways -/
theorem rI (k : Nat) (h : k < 16) : (nI k &&& (15 : Int32)).toNatClampNeg = k := by rw [pk_andN (by omega) 4 (by decide), nI_clamp (by omega)]; omega
theorem reg_in (G : rw_) (k : Nat) (h : k < 16) : f_X3_register G (nI k) = G k := by unfold f_X3_register; rw [rI k h]
theorem preg_in (G : rw_) (k : Nat) (h : k < 16) (v : Int32) : f_X3_putRegister G (nI k) v = upd G k v := by unfold f_X3_putRegister; rw [rI k h]
theorem sum_eq (x1 : Bool) (x2 x3 x4 op imm : Int32) (rn : Nat) (sx pl opl : Int32) (hr : rn < 16) (G : rw_) (a1 a2 a3 a4 : Int32) (e w : Bool) (s l : Int32) (R : tR) (h1 : rg a1 32) (x : Int64) :
    ∃ c b3, f_X3_putSum (x1, x2, x3, x4, op, imm, nI rn, sx, pl, opl) G (a1, a2, a3, a4) x = (c, upd G rn x.toInt32, (a1, a2, b3, a4)) ∧ f_X8_summed (a1, a2, a3, a4, e, w, s, l, 0, 0, R) x = (x.toInt32, (a1, a2, b3, a4, e, w, s, l, 0, c, R)) ∧ rg b3 4 := by
  by_cases c1 : lg_cmp x.toInt32.toInt64 x = 0
  · refine ⟨0, od x.toInt32.toInt64.toInt 0, ?_, ?_, od_rg _ _⟩
    · unfold f_X3_putSum
      simp only [q_let]
      rw [if_pos c1, preg_in _ _ hr, order_eq]
      rfl
    · unfold f_X8_summed
      simp only [q_let]
      rw [if_pos c1, sign_eq]
  · have e8 := al8 (a2 := a2) (a3 := 3) (a4 := a4) h1
    by_cases c2 : f_X5_allows (a1, a2, 3, a4) 8 = true
    · refine ⟨8, 3, ?_, ?_, ⟨by decide, by decide⟩⟩
      · unfold f_X3_putSum
        simp only [q_let]
        rw [if_neg c1, preg_in _ _ hr, if_pos c2]
      · unfold f_X8_summed
        simp only [q_let]
        rw [if_neg c1, sign_eq]
        dsimp only
        rw [if_pos (e8.mp c2)]
    · refine ⟨0, 3, ?_, ?_, ⟨by decide, by decide⟩⟩
      · unfold f_X3_putSum
        simp only [q_let]
        rw [if_neg c1, preg_in _ _ hr, if_neg c2]
      · unfold f_X8_summed
        simp only [q_let]
        rw [if_neg c1, sign_eq]
        dsimp only
        rw [if_neg (fun q => c2 (e8.mpr q))]
/-- what an instruction leaves: both sides alike -/
def Res (code : Int32) (G' : rw_) (T' : tT) (B' K' : rw_) (o' : tO) (b' keys' reg' : rw_) (e w : Bool) (s l : Int32) (R : tR) : Prop :=
  ∃ b1 b2 b3 b4 f t, o' = (b1, b2, b3, b4, e, w, s, l, f, t, R) ∧ T' = (b1, b2, b3, b4) ∧ Wf b1 b2 b3 b4 ∧ b' = uB B' ∧ keys' = K' ∧ (∀ i, rg (K' i) 16) ∧ reg' = G' ∧ (if f ≤ 0 then t else f) = code
