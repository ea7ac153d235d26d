
def f_X1_halfByte (r_p1_bytes : Nat → Int32) (p2 : Int32) (p3 : Int32) : Int32 := (if (p3 - p3 / (2 : Int32) * (2 : Int32)) = 0 then ((f_X6_byteAt r_p1_bytes (p2 - (p3 / (2 : Int32)))) &&& (15 : Int32)) else ((f_X6_byteAt r_p1_bytes (p2 - (p3 / (2 : Int32)))) >>> ((4 : Int32) &&& 31)))
set_option linter.all false in
set_option maxHeartbeats 4000000 in
set_option maxRecDepth 100000 in
theorem c_X1_halfByte (l : Launch) (D : va_G) (a_p1 a_p1_bytes a_p1_keys : Nat) (k_p1_bytes : ClassId) (r_p1_bytes : Nat → Int32) (p2 : Int32) (p3 : Int32) : CtI l yX1_halfByte cX1_halfByte 4 (some .int) { frames := 1, cells := 0, slots := 0, locals := 21 } D [.ref a_p1, .int p2, .int p3] [(a_p1, oX6 a_p1_bytes a_p1_keys), (a_p1_bytes, .inl (k_p1_bytes, 2048, .inl r_p1_bytes))] [(k_p1_bytes, .byte)] (fun (r : Int32) (u : Int32) => f_X1_halfByte r_p1_bytes p2 p3 = u ∧ r = u) (fun u => [(a_p1, oX6 a_p1_bytes a_p1_keys), (a_p1_bytes, .inl (k_p1_bytes, 2048, .inl r_p1_bytes))]) := by
  refine CtI.of (by decide) (Nat.le_of_ble_eq_true rfl) ?_
  intro p e s m below meth c A ls Q hE hP hD hS hl hQ
  obtain ⟨hx, hb, hml, hown, ht, hN, hK, hA⟩ := hE
  have hown : s.vm.findClass RX1 = some m.cls := hown
  have hl : lv_has ls 4 [(0, .ref a_p1), (1, .int p2), (2, .int p3)] := hl
  obtain ⟨F, hF⟩ : ∃ F, f_X1_halfByte r_p1_bytes p2 p3 = F := ⟨_, rfl⟩
  rw [hF] at hQ
  unfold f_X1_halfByte at hF
  refine lv_aload_n hx hb dX1_halfByte_0 rfl (lv_at hl 0 rfl) ?_
  refine lv_iload_n hx hb dX1_halfByte_1 rfl (lv_at hl 1 rfl) ?_
  refine lv_iload_n hx hb dX1_halfByte_2 rfl (lv_at hl 2 rfl) ?_
  refine lv_iconst (v := 2) hx hb dX1_halfByte_3 (by decide) ?_
  refine lv_idiv hx hb dX1_halfByte_4 (by decide) ?_
  refine lv_isub hx hb dX1_halfByte_5 ?_
  refine q_Vi (rest := []) (c_X6_byteAt l D a_p1 a_p1_bytes a_p1_keys k_p1_bytes r_p1_bytes (p2 - (p3 / (2 : Int32)))) cv_X6_byteAt hx hb hml hown ht hN hK hA hP hD hS hl.1 (km_X1_33) ⟨Nat.le_of_ble_eq_true rfl, Nat.le_of_ble_eq_true rfl⟩ rfl rfl [0, 1] (by decide) rfl [0] rfl (fun _ => rfl) (ci := 6) rfl rfl rfl rfl rfl (Nat.le_of_ble_eq_true rfl) dX1_halfByte_6 ⟨Nat.zero_le _, Nat.zero_le _⟩ (fun r u H locs hw hP hD hS => ?_)
  obtain ⟨rfl, rfl⟩ := hw
  have hP : va_P D vwCl [(a_p1, oX6 a_p1_bytes a_p1_keys), (a_p1_bytes, .inl (k_p1_bytes, 2048, .inl r_p1_bytes))] H := hP
  have hD : va_D A [(a_p1, oX6 a_p1_bytes a_p1_keys), (a_p1_bytes, .inl (k_p1_bytes, 2048, .inl r_p1_bytes))] := hD
  refine lv_istore_n (lv' := [(3, .int (f_X6_byteAt r_p1_bytes (p2 - (p3 / (2 : Int32))))), (0, .ref a_p1), (1, .int p2), (2, .int p3)]) hx hb dX1_halfByte_9 rfl hl (by decide) rfl (fun ls hl => ?_)
  refine lv_iload_n hx hb dX1_halfByte_10 rfl (lv_at hl 3 rfl) ?_
  refine lv_iconst (v := 2) hx hb dX1_halfByte_11 (by decide) ?_
  refine lv_irem hx hb dX1_halfByte_12 (by decide) ?_
  refine lv_if_ne (tgt := 23) hx hb dX1_halfByte_13 (by decide) (fun c_2 => ?_) (fun c_2 => ?_)
  · skip
    rw [if_neg c_2] at hF
    refine lv_iload_n hx hb dX1_halfByte_23 rfl (lv_at hl 0 rfl) ?_
    refine lv_iconst (v := 4) hx hb dX1_halfByte_24 (by decide) ?_
    refine lv_ishr hx hb dX1_halfByte_25 ?_
    exact hQ ((f_X6_byteAt r_p1_bytes (p2 - (p3 / (2 : Int32)))) >>> ((4 : Int32) &&& 31)) ((f_X6_byteAt r_p1_bytes (p2 - (p3 / (2 : Int32)))) >>> ((4 : Int32) &&& 31)) _ _ _ _ dX1_halfByte_26 ⟨hF.symm, rfl⟩ hP hD hS
  · skip
    rw [if_pos c_2] at hF
    refine lv_iload_n hx hb dX1_halfByte_16 rfl (lv_at hl 0 rfl) ?_
    refine lv_bipush (v := 15) hx hb dX1_halfByte_17 (by decide) ?_
    refine lv_iand hx hb dX1_halfByte_19 ?_
    refine lv_goto (tgt := 26) hx hb dX1_halfByte_20 (by decide) ?_
    exact hQ ((f_X6_byteAt r_p1_bytes (p2 - (p3 / (2 : Int32)))) &&& (15 : Int32)) ((f_X6_byteAt r_p1_bytes (p2 - (p3 / (2 : Int32)))) &&& (15 : Int32)) _ _ _ _ dX1_halfByte_26 ⟨hF.symm, rfl⟩ hP hD hS
theorem cv_X1_halfByte : qS yX1_halfByte cX1_halfByte 4 (some .int) 3 := ⟨kc_X1_halfByte, kt_X1_halfByte, kn_X1, by decide, by decide +kernel⟩
def f_X1_isZero_L2 (r_this_digits : Nat → Int32) (p1 : Int32) : Nat → Int32 → Bool
  | 0, x2 => false
  | fuel + 1, x2 => (if p1 ≤ x2 then true else (if (32 : Int32) ≤ x2 then true else (if (r_this_digits x2.toNatClampNeg) = 0 then f_X1_isZero_L2 r_this_digits p1 fuel (x2 + (1 : Int32)) else false)))
def f_X1_isZero (r_this_digits : Nat → Int32) (p1 : Int32) : Bool := f_X1_isZero_L2 r_this_digits p1 (((32 : Int32).toInt - (0 : Int32).toInt).toNat + 1) 0
set_option linter.all false in
set_option maxHeartbeats 4000000 in
set_option maxRecDepth 100000 in
theorem c_X1_isZero (l : Launch) (D : va_G) (a_this a_this_digits : Nat) (k_this_digits : ClassId) (o_this : Bool) (r_this_digits : Nat → Int32) (p1 : Int32) : CtI l yX1_isZero cX1_isZero 3 (some .boolean) { frames := 0, cells := 0, slots := 0, locals := 0 } D [.ref a_this, .int p1] [(a_this, oX1 a_this_digits o_this), (a_this_digits, .inl (k_this_digits, 32, .inl r_this_digits))] [(k_this_digits, .int)] (fun (r : Int32) (u : Bool) => f_X1_isZero r_this_digits p1 = u ∧ r = bI u) (fun u => [(a_this, oX1 a_this_digits o_this), (a_this_digits, .inl (k_this_digits, 32, .inl r_this_digits))]) := by
  refine CtI.ofZ (by decide) (Nat.le_of_ble_eq_true rfl) ?_
  intro p e s m below meth c A ls Q hE hP hD hS hl hQ
  obtain ⟨hx, hb, hml, hown, ht, hN, hK, hA⟩ := hE
  have hown : s.vm.findClass RX1 = some m.cls := hown
  have hl : lv_has ls 3 [(0, .ref a_this), (1, .int p1)] := hl
  obtain ⟨F, hF⟩ : ∃ F, f_X1_isZero r_this_digits p1 = F := ⟨_, rfl⟩
  rw [hF] at hQ
  unfold f_X1_isZero at hF
  refine lv_iconst (v := 0) hx hb dX1_isZero_0 (by decide) ?_
  refine lv_istore_n (lv' := [(2, .int 0), (0, .ref a_this), (1, .int p1)]) hx hb dX1_isZero_1 rfl hl (by decide) rfl (fun ls hl => ?_)
  have L2 : ∀ (fuel : Nat) (x2 : Int32) (H : Heap) (locs : List Loc) (ls : Array Slot), ((32 : Int32).toInt - (x2 : Int32).toInt).toNat < fuel → ¬ x2 < 0 → va_P D vwCl [(a_this, oX1 a_this_digits o_this), (a_this_digits, .inl (k_this_digits, 32, .inl r_this_digits))] H → va_D A [(a_this, oX1 a_this_digits o_this), (a_this_digits, .inl (k_this_digits, 32, .inl r_this_digits))] → va_S A s.heap H locs → lv_has ls 3 [(2, .int x2), (0, .ref a_this), (1, .int p1)] → f_X1_isZero_L2 r_this_digits p1 fuel x2 = F → W p l e ({ frames := 0, cells := 0, slots := 0, locals := 0 } : Room) s m ([.ref a_this, .int p1] : List Value).toArray below meth c H locs 0 0 Q (F0 m 2 ls []) := by
    intro fuel
    induction fuel with
    | zero => intro x2 H locs ls hm; exact absurd hm (Nat.not_lt_zero _)
    | succ fuel ih =>
      intro x2 H locs ls hm hv hP hD hS hl hF
      rw [f_X1_isZero_L2] at hF
      skip
      refine lv_iload_n hx hb dX1_isZero_2 rfl (lv_at hl 0 rfl) ?_
      refine lv_iload_n hx hb dX1_isZero_3 rfl (lv_at hl 2 rfl) ?_
      refine lv_icmp_ge (tgt := 30) hx hb dX1_isZero_4 (by decide) (fun c_2 => ?_) (fun c_2 => ?_)
      · skip
        rw [if_pos c_2] at hF
        refine lv_iconst (v := 1) hx hb dX1_isZero_30 (by decide) ?_
        exact hQ true true _ _ _ _ dX1_isZero_31 ⟨hF.symm, rfl⟩ hP hD hS
      · skip
        rw [if_neg c_2] at hF
        refine lv_iload_n hx hb dX1_isZero_7 rfl (lv_at hl 0 rfl) ?_
        refine lv_bipush (v := 32) hx hb dX1_isZero_8 (by decide) ?_
        refine lv_icmp_ge (tgt := 30) hx hb dX1_isZero_10 (by decide) (fun c_3 => ?_) (fun c_3 => ?_)
        · skip
          rw [if_pos c_3] at hF
          refine lv_iconst (v := 1) hx hb dX1_isZero_30 (by decide) ?_
          exact hQ true true _ _ _ _ dX1_isZero_31 ⟨hF.symm, rfl⟩ hP hD hS
        · skip
          rw [if_neg c_3] at hF
          refine lv_aload_n hx hb dX1_isZero_13 rfl (lv_at hl 1 rfl) ?_
          refine gf_X1_9 (v := .ref a_this_digits) hx hb hown ht hK hP 0 rfl rfl dX1_isZero_14 ?_
          refine lv_iload_n hx hb dX1_isZero_17 rfl (lv_at hl 0 rfl) ?_
          refine va_iald hx hb hK hP 1 0 rfl rfl (q_in hv c_3 (by decide)) dX1_isZero_18 ?_
          refine lv_if_eq (tgt := 24) hx hb dX1_isZero_19 (by decide) (fun c_4 => ?_) (fun c_4 => ?_)
          · skip
            rw [if_pos c_4] at hF
            refine lv_iinc (v := (x2 + (1 : Int32))) (lv' := [(2, .int (x2 + (1 : Int32))), (0, .ref a_this), (1, .int p1)]) hx hb dX1_isZero_24 hl (k := 0) rfl rfl (by decide) rfl (fun ls hl => ?_)
            refine lv_goto (tgt := 2) hx hb dX1_isZero_27 (by decide) ?_
            exact ih (x2 + (1 : Int32)) _ _ _ (by first | exact q_up hm hv | exact q_up hm c_2 | exact q_up hm c_3 | exact q_up hm c_4) (by first | exact q_upnn hv hv | exact q_upnn hv c_2 | exact q_upnn hv c_3 | exact q_upnn hv c_4) hP hD hS (lv_sub hl [0, 1, 2] rfl) hF
          · skip
            rw [if_neg c_4] at hF
            refine lv_iconst (v := 0) hx hb dX1_isZero_22 (by decide) ?_
            exact hQ false false _ _ _ _ dX1_isZero_23 ⟨hF.symm, rfl⟩ hP hD hS
  exact L2 (((32 : Int32).toInt - (0 : Int32).toInt).toNat + 1) 0 _ _ _ (Nat.lt_succ_self _) (by decide) hP hD hS (lv_sub hl [0, 1, 2] rfl) hF
theorem cv_X1_isZero : qV yX1_isZero cX1_isZero 3 (some .boolean) 1 := ⟨kc_X1_isZero, kt_X1_isZero, ks_X1_isZero, kn_X1, by decide, by decide +kernel⟩
def f_X1_isWithin_L3 (r_this_digits : Nat → Int32) (p1 : Int32) : Nat → Int32 → Bool
  | 0, x2 => false
  | fuel + 1, x2 => (if x2 < p1 then true else (if x2 < 0 then true else (if (r_this_digits x2.toNatClampNeg) = 0 then f_X1_isWithin_L3 r_this_digits p1 fuel (x2 + ((-1) : Int32)) else false)))
def f_X1_isWithin (r_this_digits : Nat → Int32) (p1 : Int32) : Bool := f_X1_isWithin_L3 r_this_digits p1 (((31 : Int32).toInt + 1).toNat + 1) 31
set_option linter.all false in
set_option maxHeartbeats 4000000 in
set_option maxRecDepth 100000 in
theorem c_X1_isWithin (l : Launch) (D : va_G) (a_this a_this_digits : Nat) (k_this_digits : ClassId) (o_this : Bool) (r_this_digits : Nat → Int32) (p1 : Int32) : CtI l yX1_isWithin cX1_isWithin 3 (some .boolean) { frames := 0, cells := 0, slots := 0, locals := 0 } D [.ref a_this, .int p1] [(a_this, oX1 a_this_digits o_this), (a_this_digits, .inl (k_this_digits, 32, .inl r_this_digits))] [(k_this_digits, .int)] (fun (r : Int32) (u : Bool) => f_X1_isWithin r_this_digits p1 = u ∧ r = bI u) (fun u => [(a_this, oX1 a_this_digits o_this), (a_this_digits, .inl (k_this_digits, 32, .inl r_this_digits))]) := by
  refine CtI.ofZ (by decide) (Nat.le_of_ble_eq_true rfl) ?_
  intro p e s m below meth c A ls Q hE hP hD hS hl hQ
  obtain ⟨hx, hb, hml, hown, ht, hN, hK, hA⟩ := hE
  have hown : s.vm.findClass RX1 = some m.cls := hown
  have hl : lv_has ls 3 [(0, .ref a_this), (1, .int p1)] := hl
  obtain ⟨F, hF⟩ : ∃ F, f_X1_isWithin r_this_digits p1 = F := ⟨_, rfl⟩
  rw [hF] at hQ
  unfold f_X1_isWithin at hF
  refine lv_bipush (v := 31) hx hb dX1_isWithin_0 (by decide) ?_
  refine lv_istore_n (lv' := [(2, .int 31), (0, .ref a_this), (1, .int p1)]) hx hb dX1_isWithin_2 rfl hl (by decide) rfl (fun ls hl => ?_)
  have L3 : ∀ (fuel : Nat) (x2 : Int32) (H : Heap) (locs : List Loc) (ls : Array Slot), ((x2 : Int32).toInt + 1).toNat < fuel → ¬ 32 ≤ x2 → va_P D vwCl [(a_this, oX1 a_this_digits o_this), (a_this_digits, .inl (k_this_digits, 32, .inl r_this_digits))] H → va_D A [(a_this, oX1 a_this_digits o_this), (a_this_digits, .inl (k_this_digits, 32, .inl r_this_digits))] → va_S A s.heap H locs → lv_has ls 3 [(2, .int x2), (0, .ref a_this), (1, .int p1)] → f_X1_isWithin_L3 r_this_digits p1 fuel x2 = F → W p l e ({ frames := 0, cells := 0, slots := 0, locals := 0 } : Room) s m ([.ref a_this, .int p1] : List Value).toArray below meth c H locs 0 0 Q (F0 m 3 ls []) := by
    intro fuel
    induction fuel with
    | zero => intro x2 H locs ls hm; exact absurd hm (Nat.not_lt_zero _)
    | succ fuel ih =>
      intro x2 H locs ls hm hv hP hD hS hl hF
      rw [f_X1_isWithin_L3] at hF
      skip
      refine lv_iload_n hx hb dX1_isWithin_3 rfl (lv_at hl 0 rfl) ?_
      refine lv_iload_n hx hb dX1_isWithin_4 rfl (lv_at hl 2 rfl) ?_
      refine lv_icmp_lt (tgt := 29) hx hb dX1_isWithin_5 (by decide) (fun c_2 => ?_) (fun c_2 => ?_)
      · skip
        rw [if_pos c_2] at hF
        refine lv_iconst (v := 1) hx hb dX1_isWithin_29 (by decide) ?_
        exact hQ true true _ _ _ _ dX1_isWithin_30 ⟨hF.symm, rfl⟩ hP hD hS
      · skip
        rw [if_neg c_2] at hF
        refine lv_iload_n hx hb dX1_isWithin_8 rfl (lv_at hl 0 rfl) ?_
        refine lv_if_lt (tgt := 29) hx hb dX1_isWithin_9 (by decide) (fun c_3 => ?_) (fun c_3 => ?_)
        · skip
          rw [if_pos c_3] at hF
          refine lv_iconst (v := 1) hx hb dX1_isWithin_29 (by decide) ?_
          exact hQ true true _ _ _ _ dX1_isWithin_30 ⟨hF.symm, rfl⟩ hP hD hS
        · skip
          rw [if_neg c_3] at hF
          refine lv_aload_n hx hb dX1_isWithin_12 rfl (lv_at hl 1 rfl) ?_
          refine gf_X1_9 (v := .ref a_this_digits) hx hb hown ht hK hP 0 rfl rfl dX1_isWithin_13 ?_
          refine lv_iload_n hx hb dX1_isWithin_16 rfl (lv_at hl 0 rfl) ?_
          refine va_iald hx hb hK hP 1 0 rfl rfl (q_in c_3 hv (by decide)) dX1_isWithin_17 ?_
          refine lv_if_eq (tgt := 23) hx hb dX1_isWithin_18 (by decide) (fun c_4 => ?_) (fun c_4 => ?_)
          · skip
            rw [if_pos c_4] at hF
            refine lv_iinc (v := (x2 + ((-1) : Int32))) (lv' := [(2, .int (x2 + ((-1) : Int32))), (0, .ref a_this), (1, .int p1)]) hx hb dX1_isWithin_23 hl (k := 0) rfl rfl (by decide) rfl (fun ls hl => ?_)
            refine lv_goto (tgt := 3) hx hb dX1_isWithin_26 (by decide) ?_
            exact ih (x2 + ((-1) : Int32)) _ _ _ (by first | exact q_dn hm hv | exact q_dn hm c_2 | exact q_dn hm c_3 | exact q_dn hm c_4) (by first | exact q_dn32 hv hv | exact q_dn32 hv c_2 | exact q_dn32 hv c_3 | exact q_dn32 hv c_4) hP hD hS (lv_sub hl [0, 1, 2] rfl) hF
          · skip
            rw [if_neg c_4] at hF
            refine lv_iconst (v := 0) hx hb dX1_isWithin_21 (by decide) ?_
            exact hQ false false _ _ _ _ dX1_isWithin_22 ⟨hF.symm, rfl⟩ hP hD hS
  exact L3 (((31 : Int32).toInt + 1).toNat + 1) 31 _ _ _ (Nat.lt_succ_self _) (by decide) hP hD hS (lv_sub hl [0, 1, 2] rfl) hF
theorem cv_X1_isWithin : qV yX1_isWithin cX1_isWithin 3 (some .boolean) 1 := ⟨kc_X1_isWithin, kt_X1_isWithin, ks_X1_isWithin, kn_X1, by decide, by decide +kernel⟩
def f_X1_becomeInt_L22 : Nat → Bool → (Nat → Int32) → Int32 → Int64 → Bool × (Nat → Int32)
  | 0, o_this_L22, r_this_digits_L22, x4, x2 => (o_this_L22, r_this_digits_L22)
  | fuel + 1, o_this_L22, r_this_digits_L22, x4, x2 => (if (32 : Int32) ≤ x4 then (o_this_L22, r_this_digits_L22) else f_X1_becomeInt_L22 fuel o_this_L22 (upd r_this_digits_L22 x4.toNatClampNeg ((x2 - x2 / (10 : Int64) * (10 : Int64)).toInt32)) (x4 + (1 : Int32)) (x2 / (10 : Int64)))
def f_X1_becomeInt (r_this_digits : Nat → Int32) (p1 : Int32) : Bool × (Nat → Int32) := (if 0 ≤ p1 then f_X1_becomeInt_L22 (((32 : Int32).toInt - (0 : Int32).toInt).toNat + 1) false r_this_digits 0 (if 0 < p1.toInt64 then p1.toInt64 else -p1.toInt64) else f_X1_becomeInt_L22 (((32 : Int32).toInt - (0 : Int32).toInt).toNat + 1) true r_this_digits 0 (if 0 < p1.toInt64 then p1.toInt64 else -p1.toInt64))
set_option linter.all false in
set_option maxHeartbeats 4000000 in
set_option maxRecDepth 100000 in
theorem c_X1_becomeInt (l : Launch) (D : va_G) (a_this a_this_digits : Nat) (k_this_digits : ClassId) (o_this : Bool) (r_this_digits : Nat → Int32) (p1 : Int32) : CtV l yX1_becomeInt cX1_becomeInt 5 none { frames := 1, cells := 0, slots := 0, locals := 23 } D [.ref a_this, .int p1] [(a_this, oX1 a_this_digits o_this), (a_this_digits, .inl (k_this_digits, 32, .inl r_this_digits))] [(k_this_digits, .int)] (fun (u : Bool × (Nat → Int32)) => f_X1_becomeInt r_this_digits p1 = u) (fun u => [(a_this, oX1 a_this_digits u.1), (a_this_digits, .inl (k_this_digits, 32, .inl u.2))]) := by
  refine CtV.of (by decide) (Nat.le_of_ble_eq_true rfl) ?_
  intro p e s m below meth c A ls Q hE hP hD hS hl hQ
  obtain ⟨hx, hb, hml, hown, ht, hN, hK, hA⟩ := hE
  have hown : s.vm.findClass RX1 = some m.cls := hown
  have hl : lv_has ls 5 [(0, .ref a_this), (1, .int p1)] := hl
  obtain ⟨F, hF⟩ : ∃ F, f_X1_becomeInt r_this_digits p1 = F := ⟨_, rfl⟩
  rw [hF] at hQ
  unfold f_X1_becomeInt at hF
  refine lv_aload_n hx hb dX1_becomeInt_0 rfl (lv_at hl 0 rfl) ?_
  refine lv_iload_n hx hb dX1_becomeInt_1 rfl (lv_at hl 1 rfl) ?_
  refine lv_if_ge (tgt := 9) hx hb dX1_becomeInt_2 (by decide) (fun c_1 => ?_) (fun c_1 => ?_)
  · skip
    rw [if_pos c_1] at hF
    refine lv_iconst (v := 0) hx hb dX1_becomeInt_9 (by decide) ?_
    refine pf_X1_13 (x := false) hx hb hown ht hK hP hD hS 0 rfl (Nat.le_of_ble_eq_true rfl) dX1_becomeInt_10 (fun H locs hP hD hS => ?_)
    have hP : va_P D vwCl [(a_this, oX1 a_this_digits false), (a_this_digits, .inl (k_this_digits, 32, .inl r_this_digits))] H := hP
    have hD : va_D A [(a_this, oX1 a_this_digits false), (a_this_digits, .inl (k_this_digits, 32, .inl r_this_digits))] := hD
    refine lv_iload_n hx hb dX1_becomeInt_13 rfl (lv_at hl 1 rfl) ?_
    refine lv_i2l hx hb dX1_becomeInt_14 rfl ?_
    refine va_mabs_long hx hb (by rw [hml]; exact hl.1.symm) hown (ht _ km_X1_17) (ht _ kx_abss) (ht _ kn_J9) (ht _ kx_absc) (Nat.le_of_ble_eq_true rfl) (Nat.le_of_ble_eq_true rfl) (Nat.zero_le _) (Nat.zero_le _) dX1_becomeInt_15 ?_
    refine lv_lstore_n (lv' := [(2, .long (if 0 < p1.toInt64 then p1.toInt64 else -p1.toInt64)), (0, .ref a_this), (1, .int p1)]) hx hb dX1_becomeInt_18 rfl hl (by decide) rfl (fun ls hl => ?_)
    refine lv_iconst (v := 0) hx hb dX1_becomeInt_19 (by decide) ?_
    refine lv_istore (lv' := [(4, .int 0), (2, .long (if 0 < p1.toInt64 then p1.toInt64 else -p1.toInt64)), (0, .ref a_this), (1, .int p1)]) hx hb dX1_becomeInt_20 hl (by decide) rfl (fun ls hl => ?_)
    have L22 : ∀ (fuel : Nat) (o_this_L22 : Bool) (r_this_digits_L22 : Nat → Int32) (x4 : Int32) (x2 : Int64) (H : Heap) (locs : List Loc) (ls : Array Slot), ((32 : Int32).toInt - (x4 : Int32).toInt).toNat < fuel → ¬ x4 < 0 → va_P D vwCl [(a_this, oX1 a_this_digits o_this_L22), (a_this_digits, .inl (k_this_digits, 32, .inl r_this_digits_L22))] H → va_D A [(a_this, oX1 a_this_digits o_this_L22), (a_this_digits, .inl (k_this_digits, 32, .inl r_this_digits_L22))] → va_S A s.heap H locs → lv_has ls 5 [(4, .int x4), (2, .long x2), (0, .ref a_this), (1, .int p1)] → f_X1_becomeInt_L22 fuel o_this_L22 r_this_digits_L22 x4 x2 = F → W p l e ({ frames := 1, cells := 0, slots := 0, locals := 23 } : Room) s m ([.ref a_this, .int p1] : List Value).toArray below meth c H locs 0 0 Q (F0 m 22 ls []) := by
      intro fuel
      induction fuel with
      | zero => intro o_this_L22 r_this_digits_L22 x4 x2 H locs ls hm; exact absurd hm (Nat.not_lt_zero _)
      | succ fuel ih =>
        intro o_this_L22 r_this_digits_L22 x4 x2 H locs ls hm hv hP hD hS hl hF
        rw [f_X1_becomeInt_L22] at hF
        skip
        refine lv_iload hx hb dX1_becomeInt_22 (lv_at hl 0 rfl) ?_
        refine lv_bipush (v := 32) hx hb dX1_becomeInt_24 (by decide) ?_
        refine lv_icmp_ge (tgt := 54) hx hb dX1_becomeInt_26 (by decide) (fun c_3 => ?_) (fun c_3 => ?_)
        · skip
          rw [if_pos c_3] at hF
          exact hQ (o_this_L22, r_this_digits_L22) _ _ _ _ dX1_becomeInt_54 hF.symm hP hD hS
        · skip
          rw [if_neg c_3] at hF
          refine lv_aload_n hx hb dX1_becomeInt_29 rfl (lv_at hl 2 rfl) ?_
          refine gf_X1_9 (v := .ref a_this_digits) hx hb hown ht hK hP 0 rfl rfl dX1_becomeInt_30 ?_
          refine lv_iload hx hb dX1_becomeInt_33 (lv_at hl 0 rfl) ?_
          refine lv_lload_n hx hb dX1_becomeInt_35 rfl (lv_at hl 1 rfl) ?_
          refine lv_ldc2 (v := 10) hx hb hown (ht _ kj_X1_23) dX1_becomeInt_36 ?_
          refine lv_lrem hx hb dX1_becomeInt_39 (by decide) ?_
          refine lv_l2i hx hb dX1_becomeInt_40 rfl ?_
          refine va_iast hx hb hK hP hD hS 1 0 rfl rfl (q_in hv c_3 (by decide)) dX1_becomeInt_41 (fun H locs hP hD hS => ?_)
          have hP : va_P D vwCl [(a_this, oX1 a_this_digits o_this_L22), (a_this_digits, .inl (k_this_digits, 32, .inl (upd r_this_digits_L22 x4.toNatClampNeg ((x2 - x2 / (10 : Int64) * (10 : Int64)).toInt32))))] H := hP
          have hD : va_D A [(a_this, oX1 a_this_digits o_this_L22), (a_this_digits, .inl (k_this_digits, 32, .inl (upd r_this_digits_L22 x4.toNatClampNeg ((x2 - x2 / (10 : Int64) * (10 : Int64)).toInt32))))] := hD
          refine lv_lload_n hx hb dX1_becomeInt_42 rfl (lv_at hl 1 rfl) ?_
          refine lv_ldc2 (v := 10) hx hb hown (ht _ kj_X1_23) dX1_becomeInt_43 ?_
          refine lv_ldiv hx hb dX1_becomeInt_46 (by decide) ?_
          refine lv_lstore_n (lv' := [(2, .long (x2 / (10 : Int64))), (4, .int x4), (0, .ref a_this), (1, .int p1)]) hx hb dX1_becomeInt_47 rfl hl (by decide) rfl (fun ls hl => ?_)
          refine lv_iinc (v := (x4 + (1 : Int32))) (lv' := [(4, .int (x4 + (1 : Int32))), (2, .long (x2 / (10 : Int64))), (0, .ref a_this), (1, .int p1)]) hx hb dX1_becomeInt_48 hl (k := 1) rfl rfl (by decide) rfl (fun ls hl => ?_)
          refine lv_goto (tgt := 22) hx hb dX1_becomeInt_51 (by decide) ?_
          exact ih o_this_L22 (upd r_this_digits_L22 x4.toNatClampNeg ((x2 - x2 / (10 : Int64) * (10 : Int64)).toInt32)) (x4 + (1 : Int32)) (x2 / (10 : Int64)) _ _ _ (by first | exact q_up hm c_1 | exact q_up hm hv | exact q_up hm c_3) (by first | exact q_upnn hv c_1 | exact q_upnn hv hv | exact q_upnn hv c_3) hP hD hS (lv_sub hl [0, 1, 2, 3] rfl) hF
    exact L22 (((32 : Int32).toInt - (0 : Int32).toInt).toNat + 1) false r_this_digits 0 (if 0 < p1.toInt64 then p1.toInt64 else -p1.toInt64) _ _ _ (Nat.lt_succ_self _) (by decide) hP hD hS (lv_sub hl [0, 1, 2, 3] rfl) hF
  · skip
    rw [if_neg c_1] at hF
    refine lv_iconst (v := 1) hx hb dX1_becomeInt_5 (by decide) ?_
    refine lv_goto (tgt := 10) hx hb dX1_becomeInt_6 (by decide) ?_
    refine pf_X1_13 (x := true) hx hb hown ht hK hP hD hS 0 rfl (Nat.le_of_ble_eq_true rfl) dX1_becomeInt_10 (fun H locs hP hD hS => ?_)
    have hP : va_P D vwCl [(a_this, oX1 a_this_digits true), (a_this_digits, .inl (k_this_digits, 32, .inl r_this_digits))] H := hP
    have hD : va_D A [(a_this, oX1 a_this_digits true), (a_this_digits, .inl (k_this_digits, 32, .inl r_this_digits))] := hD
    refine lv_iload_n hx hb dX1_becomeInt_13 rfl (lv_at hl 1 rfl) ?_
    refine lv_i2l hx hb dX1_becomeInt_14 rfl ?_
    refine va_mabs_long hx hb (by rw [hml]; exact hl.1.symm) hown (ht _ km_X1_17) (ht _ kx_abss) (ht _ kn_J9) (ht _ kx_absc) (Nat.le_of_ble_eq_true rfl) (Nat.le_of_ble_eq_true rfl) (Nat.zero_le _) (Nat.zero_le _) dX1_becomeInt_15 ?_
    refine lv_lstore_n (lv' := [(2, .long (if 0 < p1.toInt64 then p1.toInt64 else -p1.toInt64)), (0, .ref a_this), (1, .int p1)]) hx hb dX1_becomeInt_18 rfl hl (by decide) rfl (fun ls hl => ?_)
    refine lv_iconst (v := 0) hx hb dX1_becomeInt_19 (by decide) ?_
    refine lv_istore (lv' := [(4, .int 0), (2, .long (if 0 < p1.toInt64 then p1.toInt64 else -p1.toInt64)), (0, .ref a_this), (1, .int p1)]) hx hb dX1_becomeInt_20 hl (by decide) rfl (fun ls hl => ?_)
    have L22 : ∀ (fuel : Nat) (o_this_L22 : Bool) (r_this_digits_L22 : Nat → Int32) (x4 : Int32) (x2 : Int64) (H : Heap) (locs : List Loc) (ls : Array Slot), ((32 : Int32).toInt - (x4 : Int32).toInt).toNat < fuel → ¬ x4 < 0 → va_P D vwCl [(a_this, oX1 a_this_digits o_this_L22), (a_this_digits, .inl (k_this_digits, 32, .inl r_this_digits_L22))] H → va_D A [(a_this, oX1 a_this_digits o_this_L22), (a_this_digits, .inl (k_this_digits, 32, .inl r_this_digits_L22))] → va_S A s.heap H locs → lv_has ls 5 [(4, .int x4), (2, .long x2), (0, .ref a_this), (1, .int p1)] → f_X1_becomeInt_L22 fuel o_this_L22 r_this_digits_L22 x4 x2 = F → W p l e ({ frames := 1, cells := 0, slots := 0, locals := 23 } : Room) s m ([.ref a_this, .int p1] : List Value).toArray below meth c H locs 0 0 Q (F0 m 22 ls []) := by
      intro fuel
      induction fuel with
      | zero => intro o_this_L22 r_this_digits_L22 x4 x2 H locs ls hm; exact absurd hm (Nat.not_lt_zero _)
      | succ fuel ih =>
        intro o_this_L22 r_this_digits_L22 x4 x2 H locs ls hm hv hP hD hS hl hF
        rw [f_X1_becomeInt_L22] at hF
        skip
        refine lv_iload hx hb dX1_becomeInt_22 (lv_at hl 0 rfl) ?_
        refine lv_bipush (v := 32) hx hb dX1_becomeInt_24 (by decide) ?_
        refine lv_icmp_ge (tgt := 54) hx hb dX1_becomeInt_26 (by decide) (fun c_5 => ?_) (fun c_5 => ?_)
        · skip
          rw [if_pos c_5] at hF
          exact hQ (o_this_L22, r_this_digits_L22) _ _ _ _ dX1_becomeInt_54 hF.symm hP hD hS
        · skip
          rw [if_neg c_5] at hF
          refine lv_aload_n hx hb dX1_becomeInt_29 rfl (lv_at hl 2 rfl) ?_
          refine gf_X1_9 (v := .ref a_this_digits) hx hb hown ht hK hP 0 rfl rfl dX1_becomeInt_30 ?_
          refine lv_iload hx hb dX1_becomeInt_33 (lv_at hl 0 rfl) ?_
          refine lv_lload_n hx hb dX1_becomeInt_35 rfl (lv_at hl 1 rfl) ?_
          refine lv_ldc2 (v := 10) hx hb hown (ht _ kj_X1_23) dX1_becomeInt_36 ?_
          refine lv_lrem hx hb dX1_becomeInt_39 (by decide) ?_
          refine lv_l2i hx hb dX1_becomeInt_40 rfl ?_
          refine va_iast hx hb hK hP hD hS 1 0 rfl rfl (q_in hv c_5 (by decide)) dX1_becomeInt_41 (fun H locs hP hD hS => ?_)
          have hP : va_P D vwCl [(a_this, oX1 a_this_digits o_this_L22), (a_this_digits, .inl (k_this_digits, 32, .inl (upd r_this_digits_L22 x4.toNatClampNeg ((x2 - x2 / (10 : Int64) * (10 : Int64)).toInt32))))] H := hP
          have hD : va_D A [(a_this, oX1 a_this_digits o_this_L22), (a_this_digits, .inl (k_this_digits, 32, .inl (upd r_this_digits_L22 x4.toNatClampNeg ((x2 - x2 / (10 : Int64) * (10 : Int64)).toInt32))))] := hD
          refine lv_lload_n hx hb dX1_becomeInt_42 rfl (lv_at hl 1 rfl) ?_
          refine lv_ldc2 (v := 10) hx hb hown (ht _ kj_X1_23) dX1_becomeInt_43 ?_
          refine lv_ldiv hx hb dX1_becomeInt_46 (by decide) ?_
          refine lv_lstore_n (lv' := [(2, .long (x2 / (10 : Int64))), (4, .int x4), (0, .ref a_this), (1, .int p1)]) hx hb dX1_becomeInt_47 rfl hl (by decide) rfl (fun ls hl => ?_)
          refine lv_iinc (v := (x4 + (1 : Int32))) (lv' := [(4, .int (x4 + (1 : Int32))), (2, .long (x2 / (10 : Int64))), (0, .ref a_this), (1, .int p1)]) hx hb dX1_becomeInt_48 hl (k := 1) rfl rfl (by decide) rfl (fun ls hl => ?_)
          refine lv_goto (tgt := 22) hx hb dX1_becomeInt_51 (by decide) ?_
          exact ih o_this_L22 (upd r_this_digits_L22 x4.toNatClampNeg ((x2 - x2 / (10 : Int64) * (10 : Int64)).toInt32)) (x4 + (1 : Int32)) (x2 / (10 : Int64)) _ _ _ (by first | exact q_up hm c_1 | exact q_up hm hv | exact q_up hm c_5) (by first | exact q_upnn hv c_1 | exact q_upnn hv hv | exact q_upnn hv c_5) hP hD hS (lv_sub hl [0, 1, 2, 3] rfl) hF
    exact L22 (((32 : Int32).toInt - (0 : Int32).toInt).toNat + 1) true r_this_digits 0 (if 0 < p1.toInt64 then p1.toInt64 else -p1.toInt64) _ _ _ (Nat.lt_succ_self _) (by decide) hP hD hS (lv_sub hl [0, 1, 2, 3] rfl) hF
theorem cv_X1_becomeInt : qV yX1_becomeInt cX1_becomeInt 5 none 1 := ⟨kc_X1_becomeInt, kt_X1_becomeInt, ks_X1_becomeInt, kn_X1, by decide, by decide +kernel⟩
def f_X1_takeFrom_L10 (o_this : Bool) (r_p1_bytes : Nat → Int32) (p2 : Int32) (p3 : Int32) : Nat → (Nat → Int32) → Int32 → Bool × Bool × (Nat → Int32)
  | 0, r_this_digits_L10, x5 => (false, o_this, r_this_digits_L10)
  | fuel + 1, r_this_digits_L10, x5 => (if (32 : Int32) ≤ x5 then (if (f_X1_halfByte r_p1_bytes ((p2 + p3) - (1 : Int32)) 0) = (13 : Int32) then (if (f_X1_isZero r_this_digits_L10 32) = true then (if (f_X1_halfByte r_p1_bytes ((p2 + p3) - (1 : Int32)) 0) ≤ (9 : Int32) then (false, false, r_this_digits_L10) else (true, false, r_this_digits_L10)) else (if (f_X1_halfByte r_p1_bytes ((p2 + p3) - (1 : Int32)) 0) ≤ (9 : Int32) then (false, true, r_this_digits_L10) else (true, true, r_this_digits_L10))) else (if (f_X1_halfByte r_p1_bytes ((p2 + p3) - (1 : Int32)) 0) = (11 : Int32) then (if (f_X1_isZero r_this_digits_L10 32) = true then (if (f_X1_halfByte r_p1_bytes ((p2 + p3) - (1 : Int32)) 0) ≤ (9 : Int32) then (false, false, r_this_digits_L10) else (true, false, r_this_digits_L10)) else (if (f_X1_halfByte r_p1_bytes ((p2 + p3) - (1 : Int32)) 0) ≤ (9 : Int32) then (false, true, r_this_digits_L10) else (true, true, r_this_digits_L10))) else (if (f_X1_halfByte r_p1_bytes ((p2 + p3) - (1 : Int32)) 0) ≤ (9 : Int32) then (false, false, r_this_digits_L10) else (true, false, r_this_digits_L10)))) else (if (((2 : Int32) * p3) - (1 : Int32)) ≤ x5 then (if ((upd r_this_digits_L10 x5.toNatClampNeg 0) x5.toNatClampNeg) ≤ (9 : Int32) then f_X1_takeFrom_L10 o_this r_p1_bytes p2 p3 fuel (upd r_this_digits_L10 x5.toNatClampNeg 0) (x5 + (1 : Int32)) else (false, o_this, (upd r_this_digits_L10 x5.toNatClampNeg 0))) else (if ((upd r_this_digits_L10 x5.toNatClampNeg (f_X1_halfByte r_p1_bytes ((p2 + p3) - (1 : Int32)) (x5 + (1 : Int32)))) x5.toNatClampNeg) ≤ (9 : Int32) then f_X1_takeFrom_L10 o_this r_p1_bytes p2 p3 fuel (upd r_this_digits_L10 x5.toNatClampNeg (f_X1_halfByte r_p1_bytes ((p2 + p3) - (1 : Int32)) (x5 + (1 : Int32)))) (x5 + (1 : Int32)) else (false, o_this, (upd r_this_digits_L10 x5.toNatClampNeg (f_X1_halfByte r_p1_bytes ((p2 + p3) - (1 : Int32)) (x5 + (1 : Int32))))))))
def f_X1_takeFrom (o_this : Bool) (r_this_digits : Nat → Int32) (r_p1_bytes : Nat → Int32) (p2 : Int32) (p3 : Int32) : Bool × Bool × (Nat → Int32) := f_X1_takeFrom_L10 o_this r_p1_bytes p2 p3 (((32 : Int32).toInt - (0 : Int32).toInt).toNat + 1) r_this_digits 0
set_option linter.all false in
set_option maxHeartbeats 4000000 in
set_option maxRecDepth 100000 in
theorem c_X1_takeFrom (l : Launch) (D : va_G) (a_this a_this_digits a_p1 a_p1_bytes a_p1_keys : Nat) (k_this_digits k_p1_bytes : ClassId) (o_this : Bool) (r_this_digits : Nat → Int32) (r_p1_bytes : Nat → Int32) (p2 : Int32) (p3 : Int32) : CtI l yX1_takeFrom cX1_takeFrom 6 (some .boolean) { frames := 2, cells := 0, slots := 0, locals := 44 } D [.ref a_this, .ref a_p1, .int p2, .int p3] [(a_this, oX1 a_this_digits o_this), (a_this_digits, .inl (k_this_digits, 32, .inl r_this_digits)), (a_p1, oX6 a_p1_bytes a_p1_keys), (a_p1_bytes, .inl (k_p1_bytes, 2048, .inl r_p1_bytes))] [(k_this_digits, .int), (k_p1_bytes, .byte)] (fun (r : Int32) (u : Bool × Bool × (Nat → Int32)) => f_X1_takeFrom o_this r_this_digits r_p1_bytes p2 p3 = u ∧ r = bI u.1) (fun u => [(a_this, oX1 a_this_digits u.2.1), (a_this_digits, .inl (k_this_digits, 32, .inl u.2.2)), (a_p1, oX6 a_p1_bytes a_p1_keys), (a_p1_bytes, .inl (k_p1_bytes, 2048, .inl r_p1_bytes))]) := by
  refine CtI.ofZ (by decide) (Nat.le_of_ble_eq_true rfl) ?_
  intro p e s m below meth c A ls Q hE hP hD hS hl hQ
  obtain ⟨hx, hb, hml, hown, ht, hN, hK, hA⟩ := hE
  have hown : s.vm.findClass RX1 = some m.cls := hown
  have hl : lv_has ls 6 [(0, .ref a_this), (1, .ref a_p1), (2, .int p2), (3, .int p3)] := hl
  obtain ⟨F, hF⟩ : ∃ F, f_X1_takeFrom o_this r_this_digits r_p1_bytes p2 p3 = F := ⟨_, rfl⟩
  rw [hF] at hQ
  unfold f_X1_takeFrom at hF
  refine lv_iconst (v := 2) hx hb dX1_takeFrom_0 (by decide) ?_
  refine lv_iload_n hx hb dX1_takeFrom_1 rfl (lv_at hl 3 rfl) ?_
  refine lv_imul hx hb dX1_takeFrom_2 ?_
  refine lv_iconst (v := 1) hx hb dX1_takeFrom_3 (by decide) ?_
  refine lv_isub hx hb dX1_takeFrom_4 ?_
  refine lv_istore (lv' := [(4, .int (((2 : Int32) * p3) - (1 : Int32))), (0, .ref a_this), (1, .ref a_p1), (2, .int p2), (3, .int p3)]) hx hb dX1_takeFrom_5 hl (by decide) rfl (fun ls hl => ?_)
  refine lv_iconst (v := 0) hx hb dX1_takeFrom_7 (by decide) ?_
  refine lv_istore (lv' := [(5, .int 0), (4, .int (((2 : Int32) * p3) - (1 : Int32))), (0, .ref a_this), (1, .ref a_p1), (2, .int p2), (3, .int p3)]) hx hb dX1_takeFrom_8 hl (by decide) rfl (fun ls hl => ?_)
  have L10 : ∀ (fuel : Nat) (r_this_digits_L10 : Nat → Int32) (x5 : Int32) (H : Heap) (locs : List Loc) (ls : Array Slot), ((32 : Int32).toInt - (x5 : Int32).toInt).toNat < fuel → ¬ x5 < 0 → va_P D vwCl [(a_this, oX1 a_this_digits o_this), (a_this_digits, .inl (k_this_digits, 32, .inl r_this_digits_L10)), (a_p1, oX6 a_p1_bytes a_p1_keys), (a_p1_bytes, .inl (k_p1_bytes, 2048, .inl r_p1_bytes))] H → va_D A [(a_this, oX1 a_this_digits o_this), (a_this_digits, .inl (k_this_digits, 32, .inl r_this_digits_L10)), (a_p1, oX6 a_p1_bytes a_p1_keys), (a_p1_bytes, .inl (k_p1_bytes, 2048, .inl r_p1_bytes))] → va_S A s.heap H locs → lv_has ls 6 [(5, .int x5), (4, .int (((2 : Int32) * p3) - (1 : Int32))), (0, .ref a_this), (1, .ref a_p1), (2, .int p2), (3, .int p3)] → f_X1_takeFrom_L10 o_this r_p1_bytes p2 p3 fuel r_this_digits_L10 x5 = F → W p l e ({ frames := 2, cells := 0, slots := 0, locals := 44 } : Room) s m ([.ref a_this, .ref a_p1, .int p2, .int p3] : List Value).toArray below meth c H locs 0 0 Q (F0 m 10 ls []) := by
    intro fuel
    induction fuel with
    | zero => intro r_this_digits_L10 x5 H locs ls hm; exact absurd hm (Nat.not_lt_zero _)
    | succ fuel ih =>
      intro r_this_digits_L10 x5 H locs ls hm hv hP hD hS hl hF
      rw [f_X1_takeFrom_L10] at hF
      skip
      refine lv_iload hx hb dX1_takeFrom_10 (lv_at hl 0 rfl) ?_
      refine lv_bipush (v := 32) hx hb dX1_takeFrom_12 (by decide) ?_
      refine lv_icmp_ge (tgt := 68) hx hb dX1_takeFrom_14 (by decide) (fun c_2 => ?_) (fun c_2 => ?_)
      · skip
        rw [if_pos c_2] at hF
        refine lv_aload_n hx hb dX1_takeFrom_68 rfl (lv_at hl 3 rfl) ?_
        refine lv_iload_n hx hb dX1_takeFrom_69 rfl (lv_at hl 4 rfl) ?_
        refine lv_iload_n hx hb dX1_takeFrom_70 rfl (lv_at hl 5 rfl) ?_
        refine lv_iadd hx hb dX1_takeFrom_71 ?_
        refine lv_iconst (v := 1) hx hb dX1_takeFrom_72 (by decide) ?_
        refine lv_isub hx hb dX1_takeFrom_73 ?_
        refine lv_iconst (v := 0) hx hb dX1_takeFrom_74 (by decide) ?_
        refine q_Si (rest := []) (c_X1_halfByte l D a_p1 a_p1_bytes a_p1_keys k_p1_bytes r_p1_bytes ((p2 + p3) - (1 : Int32)) 0) cv_X1_halfByte hx hb hml hown ht hN hK hA hP hD hS hl.1 (km_X1_25) ⟨Nat.le_of_ble_eq_true rfl, Nat.le_of_ble_eq_true rfl⟩ rfl rfl [2, 3] (by decide) rfl [1] rfl (fun _ => rfl) rfl rfl (Nat.le_of_ble_eq_true rfl) dX1_takeFrom_75 ⟨Nat.zero_le _, Nat.zero_le _⟩ (fun r u H locs hw hP hD hS => ?_)
        obtain ⟨rfl, rfl⟩ := hw
        have hP : va_P D vwCl [(a_this, oX1 a_this_digits o_this), (a_this_digits, .inl (k_this_digits, 32, .inl r_this_digits_L10)), (a_p1, oX6 a_p1_bytes a_p1_keys), (a_p1_bytes, .inl (k_p1_bytes, 2048, .inl r_p1_bytes))] H := hP
        have hD : va_D A [(a_this, oX1 a_this_digits o_this), (a_this_digits, .inl (k_this_digits, 32, .inl r_this_digits_L10)), (a_p1, oX6 a_p1_bytes a_p1_keys), (a_p1_bytes, .inl (k_p1_bytes, 2048, .inl r_p1_bytes))] := hD
        refine lv_istore (lv' := [(5, .int (f_X1_halfByte r_p1_bytes ((p2 + p3) - (1 : Int32)) 0)), (4, .int (((2 : Int32) * p3) - (1 : Int32))), (0, .ref a_this), (1, .ref a_p1), (2, .int p2), (3, .int p3)]) hx hb dX1_takeFrom_78 hl (by decide) rfl (fun ls hl => ?_)
        refine lv_aload_n hx hb dX1_takeFrom_80 rfl (lv_at hl 2 rfl) ?_
        refine lv_iload hx hb dX1_takeFrom_81 (lv_at hl 0 rfl) ?_
        refine lv_bipush (v := 13) hx hb dX1_takeFrom_83 (by decide) ?_
        refine lv_icmp_eq (tgt := 95) hx hb dX1_takeFrom_85 (by decide) (fun c_4 => ?_) (fun c_4 => ?_)
        · skip
          rw [if_pos c_4] at hF
          refine lv_aload_n hx hb dX1_takeFrom_95 rfl (lv_at hl 2 rfl) ?_
          refine lv_bipush (v := 32) hx hb dX1_takeFrom_96 (by decide) ?_
          refine q_Vi (rest := [.ref a_this]) (c_X1_isZero l D a_this a_this_digits k_this_digits o_this r_this_digits_L10 32) cv_X1_isZero hx hb hml hown ht hN hK hA hP hD hS hl.1 (km_X1_29) ⟨Nat.le_of_ble_eq_true rfl, Nat.le_of_ble_eq_true rfl⟩ rfl rfl [0, 1] (by decide) rfl [0] rfl (fun _ => rfl) (ci := 1) rfl rfl rfl rfl rfl (Nat.le_of_ble_eq_true rfl) dX1_takeFrom_98 ⟨Nat.zero_le _, Nat.zero_le _⟩ (fun r u H locs hw hP hD hS => ?_)
          obtain ⟨rfl, rfl⟩ := hw
          have hP : va_P D vwCl [(a_this, oX1 a_this_digits o_this), (a_this_digits, .inl (k_this_digits, 32, .inl r_this_digits_L10)), (a_p1, oX6 a_p1_bytes a_p1_keys), (a_p1_bytes, .inl (k_p1_bytes, 2048, .inl r_p1_bytes))] H := hP
          have hD : va_D A [(a_this, oX1 a_this_digits o_this), (a_this_digits, .inl (k_this_digits, 32, .inl r_this_digits_L10)), (a_p1, oX6 a_p1_bytes a_p1_keys), (a_p1_bytes, .inl (k_p1_bytes, 2048, .inl r_p1_bytes))] := hD
          refine lv_if_ne (tgt := 108) hx hb dX1_takeFrom_101 (by decide) (fun c_6 => ?_) (fun c_6 => ?_)
          · have c_6 := (bI_ne0 _).mp c_6
            rw [if_pos c_6] at hF
            refine lv_iconst (v := 0) hx hb dX1_takeFrom_108 (by decide) ?_
            refine pf_X1_13 (x := false) hx hb hown ht hK hP hD hS 0 rfl (Nat.le_of_ble_eq_true rfl) dX1_takeFrom_109 (fun H locs hP hD hS => ?_)
            have hP : va_P D vwCl [(a_this, oX1 a_this_digits false), (a_this_digits, .inl (k_this_digits, 32, .inl r_this_digits_L10)), (a_p1, oX6 a_p1_bytes a_p1_keys), (a_p1_bytes, .inl (k_p1_bytes, 2048, .inl r_p1_bytes))] H := hP
            have hD : va_D A [(a_this, oX1 a_this_digits false), (a_this_digits, .inl (k_this_digits, 32, .inl r_this_digits_L10)), (a_p1, oX6 a_p1_bytes a_p1_keys), (a_p1_bytes, .inl (k_p1_bytes, 2048, .inl r_p1_bytes))] := hD
            refine lv_iload hx hb dX1_takeFrom_112 (lv_at hl 0 rfl) ?_
            refine lv_bipush (v := 9) hx hb dX1_takeFrom_114 (by decide) ?_
            refine lv_icmp_le (tgt := 123) hx hb dX1_takeFrom_116 (by decide) (fun c_7 => ?_) (fun c_7 => ?_)
            · skip
              rw [if_pos c_7] at hF
              refine lv_iconst (v := 0) hx hb dX1_takeFrom_123 (by decide) ?_
              exact hQ false (false, false, r_this_digits_L10) _ _ _ _ dX1_takeFrom_124 ⟨hF.symm, rfl⟩ hP hD hS
            · skip
              rw [if_neg c_7] at hF
              refine lv_iconst (v := 1) hx hb dX1_takeFrom_119 (by decide) ?_
              refine lv_goto (tgt := 124) hx hb dX1_takeFrom_120 (by decide) ?_
              exact hQ true (true, false, r_this_digits_L10) _ _ _ _ dX1_takeFrom_124 ⟨hF.symm, rfl⟩ hP hD hS
          · have c_6 : ¬ (f_X1_isZero r_this_digits_L10 32) = true := by rw [(bI_eq0 _).mp c_6]; decide
            rw [if_neg c_6] at hF
            refine lv_iconst (v := 1) hx hb dX1_takeFrom_104 (by decide) ?_
            refine lv_goto (tgt := 109) hx hb dX1_takeFrom_105 (by decide) ?_
            refine pf_X1_13 (x := true) hx hb hown ht hK hP hD hS 0 rfl (Nat.le_of_ble_eq_true rfl) dX1_takeFrom_109 (fun H locs hP hD hS => ?_)
            have hP : va_P D vwCl [(a_this, oX1 a_this_digits true), (a_this_digits, .inl (k_this_digits, 32, .inl r_this_digits_L10)), (a_p1, oX6 a_p1_bytes a_p1_keys), (a_p1_bytes, .inl (k_p1_bytes, 2048, .inl r_p1_bytes))] H := hP
            have hD : va_D A [(a_this, oX1 a_this_digits true), (a_this_digits, .inl (k_this_digits, 32, .inl r_this_digits_L10)), (a_p1, oX6 a_p1_bytes a_p1_keys), (a_p1_bytes, .inl (k_p1_bytes, 2048, .inl r_p1_bytes))] := hD
            refine lv_iload hx hb dX1_takeFrom_112 (lv_at hl 0 rfl) ?_
            refine lv_bipush (v := 9) hx hb dX1_takeFrom_114 (by decide) ?_
            refine lv_icmp_le (tgt := 123) hx hb dX1_takeFrom_116 (by decide) (fun c_8 => ?_) (fun c_8 => ?_)
            · skip
              rw [if_pos c_8] at hF
              refine lv_iconst (v := 0) hx hb dX1_takeFrom_123 (by decide) ?_
              exact hQ false (false, true, r_this_digits_L10) _ _ _ _ dX1_takeFrom_124 ⟨hF.symm, rfl⟩ hP hD hS
            · skip
              rw [if_neg c_8] at hF
              refine lv_iconst (v := 1) hx hb dX1_takeFrom_119 (by decide) ?_
              refine lv_goto (tgt := 124) hx hb dX1_takeFrom_120 (by decide) ?_
              exact hQ true (true, true, r_this_digits_L10) _ _ _ _ dX1_takeFrom_124 ⟨hF.symm, rfl⟩ hP hD hS
        · skip
          rw [if_neg c_4] at hF
          refine lv_iload hx hb dX1_takeFrom_88 (lv_at hl 0 rfl) ?_
          refine lv_bipush (v := 11) hx hb dX1_takeFrom_90 (by decide) ?_
          refine lv_icmp_ne (tgt := 108) hx hb dX1_takeFrom_92 (by decide) (fun c_9 => ?_) (fun c_9 => ?_)
          · skip
            rw [if_neg c_9] at hF
            refine lv_iconst (v := 0) hx hb dX1_takeFrom_108 (by decide) ?_
            refine pf_X1_13 (x := false) hx hb hown ht hK hP hD hS 0 rfl (Nat.le_of_ble_eq_true rfl) dX1_takeFrom_109 (fun H locs hP hD hS => ?_)
            have hP : va_P D vwCl [(a_this, oX1 a_this_digits false), (a_this_digits, .inl (k_this_digits, 32, .inl r_this_digits_L10)), (a_p1, oX6 a_p1_bytes a_p1_keys), (a_p1_bytes, .inl (k_p1_bytes, 2048, .inl r_p1_bytes))] H := hP
            have hD : va_D A [(a_this, oX1 a_this_digits false), (a_this_digits, .inl (k_this_digits, 32, .inl r_this_digits_L10)), (a_p1, oX6 a_p1_bytes a_p1_keys), (a_p1_bytes, .inl (k_p1_bytes, 2048, .inl r_p1_bytes))] := hD
            refine lv_iload hx hb dX1_takeFrom_112 (lv_at hl 0 rfl) ?_
            refine lv_bipush (v := 9) hx hb dX1_takeFrom_114 (by decide) ?_
            refine lv_icmp_le (tgt := 123) hx hb dX1_takeFrom_116 (by decide) (fun c_10 => ?_) (fun c_10 => ?_)
            · skip
              rw [if_pos c_10] at hF
              refine lv_iconst (v := 0) hx hb dX1_takeFrom_123 (by decide) ?_
              exact hQ false (false, false, r_this_digits_L10) _ _ _ _ dX1_takeFrom_124 ⟨hF.symm, rfl⟩ hP hD hS
            · skip
              rw [if_neg c_10] at hF
              refine lv_iconst (v := 1) hx hb dX1_takeFrom_119 (by decide) ?_
              refine lv_goto (tgt := 124) hx hb dX1_takeFrom_120 (by decide) ?_
              exact hQ true (true, false, r_this_digits_L10) _ _ _ _ dX1_takeFrom_124 ⟨hF.symm, rfl⟩ hP hD hS
          · skip
            rw [if_pos c_9] at hF
            refine lv_aload_n hx hb dX1_takeFrom_95 rfl (lv_at hl 2 rfl) ?_
            refine lv_bipush (v := 32) hx hb dX1_takeFrom_96 (by decide) ?_
            refine q_Vi (rest := [.ref a_this]) (c_X1_isZero l D a_this a_this_digits k_this_digits o_this r_this_digits_L10 32) cv_X1_isZero hx hb hml hown ht hN hK hA hP hD hS hl.1 (km_X1_29) ⟨Nat.le_of_ble_eq_true rfl, Nat.le_of_ble_eq_true rfl⟩ rfl rfl [0, 1] (by decide) rfl [0] rfl (fun _ => rfl) (ci := 1) rfl rfl rfl rfl rfl (Nat.le_of_ble_eq_true rfl) dX1_takeFrom_98 ⟨Nat.zero_le _, Nat.zero_le _⟩ (fun r u H locs hw hP hD hS => ?_)
            obtain ⟨rfl, rfl⟩ := hw
            have hP : va_P D vwCl [(a_this, oX1 a_this_digits o_this), (a_this_digits, .inl (k_this_digits, 32, .inl r_this_digits_L10)), (a_p1, oX6 a_p1_bytes a_p1_keys), (a_p1_bytes, .inl (k_p1_bytes, 2048, .inl r_p1_bytes))] H := hP
            have hD : va_D A [(a_this, oX1 a_this_digits o_this), (a_this_digits, .inl (k_this_digits, 32, .inl r_this_digits_L10)), (a_p1, oX6 a_p1_bytes a_p1_keys), (a_p1_bytes, .inl (k_p1_bytes, 2048, .inl r_p1_bytes))] := hD
            refine lv_if_ne (tgt := 108) hx hb dX1_takeFrom_101 (by decide) (fun c_12 => ?_) (fun c_12 => ?_)
            · have c_12 := (bI_ne0 _).mp c_12
              rw [if_pos c_12] at hF
              refine lv_iconst (v := 0) hx hb dX1_takeFrom_108 (by decide) ?_
              refine pf_X1_13 (x := false) hx hb hown ht hK hP hD hS 0 rfl (Nat.le_of_ble_eq_true rfl) dX1_takeFrom_109 (fun H locs hP hD hS => ?_)
              have hP : va_P D vwCl [(a_this, oX1 a_this_digits false), (a_this_digits, .inl (k_this_digits, 32, .inl r_this_digits_L10)), (a_p1, oX6 a_p1_bytes a_p1_keys), (a_p1_bytes, .inl (k_p1_bytes, 2048, .inl r_p1_bytes))] H := hP
              have hD : va_D A [(a_this, oX1 a_this_digits false), (a_this_digits, .inl (k_this_digits, 32, .inl r_this_digits_L10)), (a_p1, oX6 a_p1_bytes a_p1_keys), (a_p1_bytes, .inl (k_p1_bytes, 2048, .inl r_p1_bytes))] := hD
              refine lv_iload hx hb dX1_takeFrom_112 (lv_at hl 0 rfl) ?_
              refine lv_bipush (v := 9) hx hb dX1_takeFrom_114 (by decide) ?_
              refine lv_icmp_le (tgt := 123) hx hb dX1_takeFrom_116 (by decide) (fun c_13 => ?_) (fun c_13 => ?_)
              · skip
                rw [if_pos c_13] at hF
                refine lv_iconst (v := 0) hx hb dX1_takeFrom_123 (by decide) ?_
                exact hQ false (false, false, r_this_digits_L10) _ _ _ _ dX1_takeFrom_124 ⟨hF.symm, rfl⟩ hP hD hS
              · skip
                rw [if_neg c_13] at hF
                refine lv_iconst (v := 1) hx hb dX1_takeFrom_119 (by decide) ?_
                refine lv_goto (tgt := 124) hx hb dX1_takeFrom_120 (by decide) ?_
                exact hQ true (true, false, r_this_digits_L10) _ _ _ _ dX1_takeFrom_124 ⟨hF.symm, rfl⟩ hP hD hS
            · have c_12 : ¬ (f_X1_isZero r_this_digits_L10 32) = true := by rw [(bI_eq0 _).mp c_12]; decide
              rw [if_neg c_12] at hF
              refine lv_iconst (v := 1) hx hb dX1_takeFrom_104 (by decide) ?_
              refine lv_goto (tgt := 109) hx hb dX1_takeFrom_105 (by decide) ?_
              refine pf_X1_13 (x := true) hx hb hown ht hK hP hD hS 0 rfl (Nat.le_of_ble_eq_true rfl) dX1_takeFrom_109 (fun H locs hP hD hS => ?_)
              have hP : va_P D vwCl [(a_this, oX1 a_this_digits true), (a_this_digits, .inl (k_this_digits, 32, .inl r_this_digits_L10)), (a_p1, oX6 a_p1_bytes a_p1_keys), (a_p1_bytes, .inl (k_p1_bytes, 2048, .inl r_p1_bytes))] H := hP
              have hD : va_D A [(a_this, oX1 a_this_digits true), (a_this_digits, .inl (k_this_digits, 32, .inl r_this_digits_L10)), (a_p1, oX6 a_p1_bytes a_p1_keys), (a_p1_bytes, .inl (k_p1_bytes, 2048, .inl r_p1_bytes))] := hD
              refine lv_iload hx hb dX1_takeFrom_112 (lv_at hl 0 rfl) ?_
              refine lv_bipush (v := 9) hx hb dX1_takeFrom_114 (by decide) ?_
              refine lv_icmp_le (tgt := 123) hx hb dX1_takeFrom_116 (by decide) (fun c_14 => ?_) (fun c_14 => ?_)
              · skip
                rw [if_pos c_14] at hF
                refine lv_iconst (v := 0) hx hb dX1_takeFrom_123 (by decide) ?_
                exact hQ false (false, true, r_this_digits_L10) _ _ _ _ dX1_takeFrom_124 ⟨hF.symm, rfl⟩ hP hD hS
              · skip
                rw [if_neg c_14] at hF
                refine lv_iconst (v := 1) hx hb dX1_takeFrom_119 (by decide) ?_
                refine lv_goto (tgt := 124) hx hb dX1_takeFrom_120 (by decide) ?_
                exact hQ true (true, true, r_this_digits_L10) _ _ _ _ dX1_takeFrom_124 ⟨hF.symm, rfl⟩ hP hD hS
      · skip
        rw [if_neg c_2] at hF
        refine lv_aload_n hx hb dX1_takeFrom_17 rfl (lv_at hl 2 rfl) ?_
        refine gf_X1_9 (v := .ref a_this_digits) hx hb hown ht hK hP 0 rfl rfl dX1_takeFrom_18 ?_
        refine lv_iload hx hb dX1_takeFrom_21 (lv_at hl 0 rfl) ?_
        refine lv_iload hx hb dX1_takeFrom_23 (lv_at hl 0 rfl) ?_
        refine lv_iload hx hb dX1_takeFrom_25 (lv_at hl 1 rfl) ?_
        refine lv_icmp_ge (tgt := 46) hx hb dX1_takeFrom_27 (by decide) (fun c_15 => ?_) (fun c_15 => ?_)
        · skip
          rw [if_pos c_15] at hF
          refine lv_iconst (v := 0) hx hb dX1_takeFrom_46 (by decide) ?_
          refine va_iast hx hb hK hP hD hS 1 0 rfl rfl (q_in hv c_2 (by decide)) dX1_takeFrom_47 (fun H locs hP hD hS => ?_)
          have hP : va_P D vwCl [(a_this, oX1 a_this_digits o_this), (a_this_digits, .inl (k_this_digits, 32, .inl (upd r_this_digits_L10 x5.toNatClampNeg 0))), (a_p1, oX6 a_p1_bytes a_p1_keys), (a_p1_bytes, .inl (k_p1_bytes, 2048, .inl r_p1_bytes))] H := hP
          have hD : va_D A [(a_this, oX1 a_this_digits o_this), (a_this_digits, .inl (k_this_digits, 32, .inl (upd r_this_digits_L10 x5.toNatClampNeg 0))), (a_p1, oX6 a_p1_bytes a_p1_keys), (a_p1_bytes, .inl (k_p1_bytes, 2048, .inl r_p1_bytes))] := hD
          refine lv_aload_n hx hb dX1_takeFrom_48 rfl (lv_at hl 2 rfl) ?_
          refine gf_X1_9 (v := .ref a_this_digits) hx hb hown ht hK hP 0 rfl rfl dX1_takeFrom_49 ?_
          refine lv_iload hx hb dX1_takeFrom_52 (lv_at hl 0 rfl) ?_
          refine va_iald hx hb hK hP 1 0 rfl rfl (q_in hv c_2 (by decide)) dX1_takeFrom_54 ?_
          refine lv_bipush (v := 9) hx hb dX1_takeFrom_55 (by decide) ?_
          refine lv_icmp_le (tgt := 62) hx hb dX1_takeFrom_57 (by decide) (fun c_16 => ?_) (fun c_16 => ?_)
          · skip
            rw [if_pos c_16] at hF
            refine lv_iinc (v := (x5 + (1 : Int32))) (lv' := [(5, .int (x5 + (1 : Int32))), (4, .int (((2 : Int32) * p3) - (1 : Int32))), (0, .ref a_this), (1, .ref a_p1), (2, .int p2), (3, .int p3)]) hx hb dX1_takeFrom_62 hl (k := 0) rfl rfl (by decide) rfl (fun ls hl => ?_)
            refine lv_goto (tgt := 10) hx hb dX1_takeFrom_65 (by decide) ?_
            exact ih (upd r_this_digits_L10 x5.toNatClampNeg 0) (x5 + (1 : Int32)) _ _ _ (by first | exact q_up hm hv | exact q_up hm c_2 | exact q_up hm c_15 | exact q_up hm c_16) (by first | exact q_upnn hv hv | exact q_upnn hv c_2 | exact q_upnn hv c_15 | exact q_upnn hv c_16) hP hD hS (lv_sub hl [0, 1, 2, 3, 4, 5] rfl) hF
          · skip
            rw [if_neg c_16] at hF
            refine lv_iconst (v := 0) hx hb dX1_takeFrom_60 (by decide) ?_
            exact hQ false (false, o_this, (upd r_this_digits_L10 x5.toNatClampNeg 0)) _ _ _ _ dX1_takeFrom_61 ⟨hF.symm, rfl⟩ hP hD hS
        · skip
          rw [if_neg c_15] at hF
          refine lv_aload_n hx hb dX1_takeFrom_30 rfl (lv_at hl 3 rfl) ?_
          refine lv_iload_n hx hb dX1_takeFrom_31 rfl (lv_at hl 4 rfl) ?_
          refine lv_iload_n hx hb dX1_takeFrom_32 rfl (lv_at hl 5 rfl) ?_
          refine lv_iadd hx hb dX1_takeFrom_33 ?_
          refine lv_iconst (v := 1) hx hb dX1_takeFrom_34 (by decide) ?_
          refine lv_isub hx hb dX1_takeFrom_35 ?_
          refine lv_iload hx hb dX1_takeFrom_36 (lv_at hl 0 rfl) ?_
          refine lv_iconst (v := 1) hx hb dX1_takeFrom_38 (by decide) ?_
          refine lv_iadd hx hb dX1_takeFrom_39 ?_
          refine q_Si (rest := [.int x5, .ref a_this_digits]) (c_X1_halfByte l D a_p1 a_p1_bytes a_p1_keys k_p1_bytes r_p1_bytes ((p2 + p3) - (1 : Int32)) (x5 + (1 : Int32))) cv_X1_halfByte hx hb hml hown ht hN hK hA hP hD hS hl.1 (km_X1_25) ⟨Nat.le_of_ble_eq_true rfl, Nat.le_of_ble_eq_true rfl⟩ rfl rfl [2, 3] (by decide) rfl [1] rfl (fun _ => rfl) rfl rfl (Nat.le_of_ble_eq_true rfl) dX1_takeFrom_40 ⟨Nat.zero_le _, Nat.zero_le _⟩ (fun r u H locs hw hP hD hS => ?_)
          obtain ⟨rfl, rfl⟩ := hw
          have hP : va_P D vwCl [(a_this, oX1 a_this_digits o_this), (a_this_digits, .inl (k_this_digits, 32, .inl r_this_digits_L10)), (a_p1, oX6 a_p1_bytes a_p1_keys), (a_p1_bytes, .inl (k_p1_bytes, 2048, .inl r_p1_bytes))] H := hP
          have hD : va_D A [(a_this, oX1 a_this_digits o_this), (a_this_digits, .inl (k_this_digits, 32, .inl r_this_digits_L10)), (a_p1, oX6 a_p1_bytes a_p1_keys), (a_p1_bytes, .inl (k_p1_bytes, 2048, .inl r_p1_bytes))] := hD
          refine lv_goto (tgt := 47) hx hb dX1_takeFrom_43 (by decide) ?_
          refine va_iast hx hb hK hP hD hS 1 0 rfl rfl (q_in hv c_2 (by decide)) dX1_takeFrom_47 (fun H locs hP hD hS => ?_)
          have hP : va_P D vwCl [(a_this, oX1 a_this_digits o_this), (a_this_digits, .inl (k_this_digits, 32, .inl (upd r_this_digits_L10 x5.toNatClampNeg (f_X1_halfByte r_p1_bytes ((p2 + p3) - (1 : Int32)) (x5 + (1 : Int32)))))), (a_p1, oX6 a_p1_bytes a_p1_keys), (a_p1_bytes, .inl (k_p1_bytes, 2048, .inl r_p1_bytes))] H := hP
          have hD : va_D A [(a_this, oX1 a_this_digits o_this), (a_this_digits, .inl (k_this_digits, 32, .inl (upd r_this_digits_L10 x5.toNatClampNeg (f_X1_halfByte r_p1_bytes ((p2 + p3) - (1 : Int32)) (x5 + (1 : Int32)))))), (a_p1, oX6 a_p1_bytes a_p1_keys), (a_p1_bytes, .inl (k_p1_bytes, 2048, .inl r_p1_bytes))] := hD
          refine lv_aload_n hx hb dX1_takeFrom_48 rfl (lv_at hl 2 rfl) ?_
          refine gf_X1_9 (v := .ref a_this_digits) hx hb hown ht hK hP 0 rfl rfl dX1_takeFrom_49 ?_
          refine lv_iload hx hb dX1_takeFrom_52 (lv_at hl 0 rfl) ?_
          refine va_iald hx hb hK hP 1 0 rfl rfl (q_in hv c_2 (by decide)) dX1_takeFrom_54 ?_
          refine lv_bipush (v := 9) hx hb dX1_takeFrom_55 (by decide) ?_
          refine lv_icmp_le (tgt := 62) hx hb dX1_takeFrom_57 (by decide) (fun c_18 => ?_) (fun c_18 => ?_)
          · skip
            rw [if_pos c_18] at hF
            refine lv_iinc (v := (x5 + (1 : Int32))) (lv' := [(5, .int (x5 + (1 : Int32))), (4, .int (((2 : Int32) * p3) - (1 : Int32))), (0, .ref a_this), (1, .ref a_p1), (2, .int p2), (3, .int p3)]) hx hb dX1_takeFrom_62 hl (k := 0) rfl rfl (by decide) rfl (fun ls hl => ?_)
            refine lv_goto (tgt := 10) hx hb dX1_takeFrom_65 (by decide) ?_
            exact ih (upd r_this_digits_L10 x5.toNatClampNeg (f_X1_halfByte r_p1_bytes ((p2 + p3) - (1 : Int32)) (x5 + (1 : Int32)))) (x5 + (1 : Int32)) _ _ _ (by first | exact q_up hm hv | exact q_up hm c_2 | exact q_up hm c_15 | exact q_up hm c_18) (by first | exact q_upnn hv hv | exact q_upnn hv c_2 | exact q_upnn hv c_15 | exact q_upnn hv c_18) hP hD hS (lv_sub hl [0, 1, 2, 3, 4, 5] rfl) hF
          · skip
            rw [if_neg c_18] at hF
            refine lv_iconst (v := 0) hx hb dX1_takeFrom_60 (by decide) ?_
            exact hQ false (false, o_this, (upd r_this_digits_L10 x5.toNatClampNeg (f_X1_halfByte r_p1_bytes ((p2 + p3) - (1 : Int32)) (x5 + (1 : Int32))))) _ _ _ _ dX1_takeFrom_61 ⟨hF.symm, rfl⟩ hP hD hS
  exact L10 (((32 : Int32).toInt - (0 : Int32).toInt).toNat + 1) r_this_digits 0 _ _ _ (Nat.lt_succ_self _) (by decide) hP hD hS (lv_sub hl [0, 1, 2, 3, 4, 5] rfl) hF
theorem cv_X1_takeFrom : qV yX1_takeFrom cX1_takeFrom 6 (some .boolean) 3 := ⟨kc_X1_takeFrom, kt_X1_takeFrom, ks_X1_takeFrom, kn_X1, by decide, by decide +kernel⟩
def f_X1_putTo_L55 (r_this_digits : Nat → Int32) (p2 : Int32) (p3 : Int32) : Nat → (Nat → Int32) → Int32 → Bool × (Nat → Int32)
  | 0, r_p1_bytes_L55, x6 => (false, r_p1_bytes_L55)
  | fuel + 1, r_p1_bytes_L55, x6 => (if (((2 : Int32) * p3) - (1 : Int32)) ≤ (x6 + (1 : Int32)) then ((f_X1_isWithin r_this_digits (((2 : Int32) * p3) - (1 : Int32))), r_p1_bytes_L55) else (if (32 : Int32) ≤ (x6 + (1 : Int32)) then ((f_X1_isWithin r_this_digits (((2 : Int32) * p3) - (1 : Int32))), r_p1_bytes_L55) else (q_let (f_X6_putByte r_p1_bytes_L55 (((p2 + p3) - (2 : Int32)) - (x6 / (2 : Int32))) (((r_this_digits (x6 + (1 : Int32)).toNatClampNeg) <<< ((4 : Int32) &&& 31)) ||| (r_this_digits x6.toNatClampNeg))) fun w_8 => f_X1_putTo_L55 r_this_digits p2 p3 fuel w_8 (x6 + (2 : Int32)))))
def f_X1_putTo_L55b (r_this_digits : Nat → Int32) (p2 : Int32) (p3 : Int32) : Nat → (Nat → Int32) → Int32 → Bool × (Nat → Int32)
  | 0, r_p1_bytes_L55, x6 => (false, r_p1_bytes_L55)
  | fuel + 1, r_p1_bytes_L55, x6 => (if (((2 : Int32) * p3) - (1 : Int32)) ≤ (x6 + (1 : Int32)) then ((f_X1_isWithin r_this_digits (((2 : Int32) * p3) - (1 : Int32))), r_p1_bytes_L55) else (if (32 : Int32) ≤ (x6 + (1 : Int32)) then ((f_X1_isWithin r_this_digits (((2 : Int32) * p3) - (1 : Int32))), r_p1_bytes_L55) else (q_let (f_X6_putByte r_p1_bytes_L55 (((p2 + p3) - (2 : Int32)) - (x6 / (2 : Int32))) (((r_this_digits (x6 + (1 : Int32)).toNatClampNeg) <<< ((4 : Int32) &&& 31)) ||| (r_this_digits x6.toNatClampNeg))) fun w_17 => f_X1_putTo_L55b r_this_digits p2 p3 fuel w_17 (x6 + (2 : Int32)))))
def f_X1_putTo_L55bb (r_this_digits : Nat → Int32) (p2 : Int32) (p3 : Int32) : Nat → (Nat → Int32) → Int32 → Bool × (Nat → Int32)
  | 0, r_p1_bytes_L55, x6 => (false, r_p1_bytes_L55)
  | fuel + 1, r_p1_bytes_L55, x6 => (if (((2 : Int32) * p3) - (1 : Int32)) ≤ (x6 + (1 : Int32)) then ((f_X1_isWithin r_this_digits (((2 : Int32) * p3) - (1 : Int32))), r_p1_bytes_L55) else (if (32 : Int32) ≤ (x6 + (1 : Int32)) then ((f_X1_isWithin r_this_digits (((2 : Int32) * p3) - (1 : Int32))), r_p1_bytes_L55) else (q_let (f_X6_putByte r_p1_bytes_L55 (((p2 + p3) - (2 : Int32)) - (x6 / (2 : Int32))) (((r_this_digits (x6 + (1 : Int32)).toNatClampNeg) <<< ((4 : Int32) &&& 31)) ||| (r_this_digits x6.toNatClampNeg))) fun w_24 => f_X1_putTo_L55bb r_this_digits p2 p3 fuel w_24 (x6 + (2 : Int32)))))
def f_X1_putTo (o_this : Bool) (r_this_digits : Nat → Int32) (r_p1_bytes : Nat → Int32) (p2 : Int32) (p3 : Int32) : Bool × (Nat → Int32) := (if o_this = true then (if (f_X1_isZero r_this_digits (((2 : Int32) * p3) - (1 : Int32))) = true then (q_let (f_X6_putByte r_p1_bytes ((p2 + p3) - (1 : Int32)) (((r_this_digits (0 : Int32).toNatClampNeg) <<< ((4 : Int32) &&& 31)) ||| (12 : Int32))) fun w_11 => f_X1_putTo_L55b r_this_digits p2 p3 (((32 : Int32).toInt - (1 : Int32).toInt).toNat + 1) w_11 1) else (q_let (f_X6_putByte r_p1_bytes ((p2 + p3) - (1 : Int32)) (((r_this_digits (0 : Int32).toNatClampNeg) <<< ((4 : Int32) &&& 31)) ||| (13 : Int32))) fun w_18 => f_X1_putTo_L55bb r_this_digits p2 p3 (((32 : Int32).toInt - (1 : Int32).toInt).toNat + 1) w_18 1)) else (q_let (f_X6_putByte r_p1_bytes ((p2 + p3) - (1 : Int32)) (((r_this_digits (0 : Int32).toNatClampNeg) <<< ((4 : Int32) &&& 31)) ||| (12 : Int32))) fun w_2 => f_X1_putTo_L55 r_this_digits p2 p3 (((32 : Int32).toInt - (1 : Int32).toInt).toNat + 1) w_2 1))
set_option linter.all false in
set_option maxHeartbeats 4000000 in
set_option maxRecDepth 100000 in
theorem c_X1_putTo (l : Launch) (D : va_G) (a_this a_this_digits a_p1 a_p1_bytes a_p1_keys : Nat) (k_this_digits k_p1_bytes : ClassId) (o_this : Bool) (r_this_digits : Nat → Int32) (r_p1_bytes : Nat → Int32) (p2 : Int32) (p3 : Int32) : CtI l yX1_putTo cX1_putTo 7 (some .boolean) { frames := 1, cells := 0, slots := 0, locals := 22 } D [.ref a_this, .ref a_p1, .int p2, .int p3] [(a_this, oX1 a_this_digits o_this), (a_this_digits, .inl (k_this_digits, 32, .inl r_this_digits)), (a_p1, oX6 a_p1_bytes a_p1_keys), (a_p1_bytes, .inl (k_p1_bytes, 2048, .inl r_p1_bytes))] [(k_this_digits, .int), (k_p1_bytes, .byte)] (fun (r : Int32) (u : Bool × (Nat → Int32)) => f_X1_putTo o_this r_this_digits r_p1_bytes p2 p3 = u ∧ r = bI u.1) (fun u => [(a_this, oX1 a_this_digits o_this), (a_this_digits, .inl (k_this_digits, 32, .inl r_this_digits)), (a_p1, oX6 a_p1_bytes a_p1_keys), (a_p1_bytes, .inl (k_p1_bytes, 2048, .inl u.2))]) := by
  refine CtI.ofZ (by decide) (Nat.le_of_ble_eq_true rfl) ?_
  intro p e s m below meth c A ls Q hE hP hD hS hl hQ
  obtain ⟨hx, hb, hml, hown, ht, hN, hK, hA⟩ := hE
  have hown : s.vm.findClass RX1 = some m.cls := hown
  have hl : lv_has ls 7 [(0, .ref a_this), (1, .ref a_p1), (2, .int p2), (3, .int p3)] := hl
  obtain ⟨F, hF⟩ : ∃ F, f_X1_putTo o_this r_this_digits r_p1_bytes p2 p3 = F := ⟨_, rfl⟩
  rw [hF] at hQ
  unfold f_X1_putTo at hF
  refine lv_iconst (v := 2) hx hb dX1_putTo_0 (by decide) ?_
  refine lv_iload_n hx hb dX1_putTo_1 rfl (lv_at hl 3 rfl) ?_
  refine lv_imul hx hb dX1_putTo_2 ?_
  refine lv_iconst (v := 1) hx hb dX1_putTo_3 (by decide) ?_
  refine lv_isub hx hb dX1_putTo_4 ?_
  refine lv_istore (lv' := [(4, .int (((2 : Int32) * p3) - (1 : Int32))), (0, .ref a_this), (1, .ref a_p1), (2, .int p2), (3, .int p3)]) hx hb dX1_putTo_5 hl (by decide) rfl (fun ls hl => ?_)
  refine lv_aload_n hx hb dX1_putTo_7 rfl (lv_at hl 1 rfl) ?_
  refine gf_X1_13 (v := .int (bI o_this)) hx hb hown ht hK hP 0 rfl rfl dX1_putTo_8 ?_
  refine lv_if_eq (tgt := 28) hx hb dX1_putTo_11 (by decide) (fun c_1 => ?_) (fun c_1 => ?_)
  · have c_1 : ¬ o_this = true := by rw [(bI_eq0 _).mp c_1]; decide
    rw [if_neg c_1] at hF
    refine lv_bipush (v := 12) hx hb dX1_putTo_28 (by decide) ?_
    refine lv_istore (lv' := [(5, .int 12), (4, .int (((2 : Int32) * p3) - (1 : Int32))), (0, .ref a_this), (1, .ref a_p1), (2, .int p2), (3, .int p3)]) hx hb dX1_putTo_30 hl (by decide) rfl (fun ls hl => ?_)
    refine lv_aload_n hx hb dX1_putTo_32 rfl (lv_at hl 3 rfl) ?_
    refine lv_iload_n hx hb dX1_putTo_33 rfl (lv_at hl 4 rfl) ?_
    refine lv_iload_n hx hb dX1_putTo_34 rfl (lv_at hl 5 rfl) ?_
    refine lv_iadd hx hb dX1_putTo_35 ?_
    refine lv_iconst (v := 1) hx hb dX1_putTo_36 (by decide) ?_
    refine lv_isub hx hb dX1_putTo_37 ?_
    refine lv_aload_n hx hb dX1_putTo_38 rfl (lv_at hl 2 rfl) ?_
    refine gf_X1_9 (v := .ref a_this_digits) hx hb hown ht hK hP 0 rfl rfl dX1_putTo_39 ?_
    refine lv_iconst (v := 0) hx hb dX1_putTo_42 (by decide) ?_
    refine va_iald hx hb hK hP 1 0 rfl rfl (vp_in_iff.mpr (by decide)) dX1_putTo_43 ?_
    refine lv_iconst (v := 4) hx hb dX1_putTo_44 (by decide) ?_
    refine lv_ishl hx hb dX1_putTo_45 ?_
    refine lv_iload hx hb dX1_putTo_46 (lv_at hl 0 rfl) ?_
    refine lv_ior hx hb dX1_putTo_48 ?_
    refine q_Vv (rest := []) (c_X6_putByte l D a_p1 a_p1_bytes a_p1_keys k_p1_bytes r_p1_bytes ((p2 + p3) - (1 : Int32)) (((r_this_digits (0 : Int32).toNatClampNeg) <<< ((4 : Int32) &&& 31)) ||| (12 : Int32))) cv_X6_putByte hx hb hml hown ht hN hK hA hP hD hS hl.1 (km_X1_39) ⟨Nat.le_of_ble_eq_true rfl, Nat.le_of_ble_eq_true rfl⟩ rfl rfl [2, 3] (by decide) rfl [1] rfl (fun _ => rfl) (ci := 6) rfl rfl rfl rfl rfl (Nat.le_of_ble_eq_true rfl) dX1_putTo_49 ⟨Nat.zero_le _, Nat.zero_le _⟩ (fun w_2 H locs hw hP hD hS => ?_)
    have hP : va_P D vwCl [(a_this, oX1 a_this_digits o_this), (a_this_digits, .inl (k_this_digits, 32, .inl r_this_digits)), (a_p1, oX6 a_p1_bytes a_p1_keys), (a_p1_bytes, .inl (k_p1_bytes, 2048, .inl w_2))] H := hP
    have hD : va_D A [(a_this, oX1 a_this_digits o_this), (a_this_digits, .inl (k_this_digits, 32, .inl r_this_digits)), (a_p1, oX6 a_p1_bytes a_p1_keys), (a_p1_bytes, .inl (k_p1_bytes, 2048, .inl w_2))] := hD
    rw [q_let_of hw] at hF
    refine lv_iconst (v := 1) hx hb dX1_putTo_52 (by decide) ?_
    refine lv_istore (lv' := [(6, .int 1), (5, .int 12), (4, .int (((2 : Int32) * p3) - (1 : Int32))), (0, .ref a_this), (1, .ref a_p1), (2, .int p2), (3, .int p3)]) hx hb dX1_putTo_53 hl (by decide) rfl (fun ls hl => ?_)
    have L55 : ∀ (fuel : Nat) (r_p1_bytes_L55 : Nat → Int32) (x6 : Int32) (H : Heap) (locs : List Loc) (ls : Array Slot), ((32 : Int32).toInt - (x6 : Int32).toInt).toNat < fuel → q_r33 x6 → va_P D vwCl [(a_this, oX1 a_this_digits o_this), (a_this_digits, .inl (k_this_digits, 32, .inl r_this_digits)), (a_p1, oX6 a_p1_bytes a_p1_keys), (a_p1_bytes, .inl (k_p1_bytes, 2048, .inl r_p1_bytes_L55))] H → va_D A [(a_this, oX1 a_this_digits o_this), (a_this_digits, .inl (k_this_digits, 32, .inl r_this_digits)), (a_p1, oX6 a_p1_bytes a_p1_keys), (a_p1_bytes, .inl (k_p1_bytes, 2048, .inl r_p1_bytes_L55))] → va_S A s.heap H locs → lv_has ls 7 [(6, .int x6), (5, .int 12), (4, .int (((2 : Int32) * p3) - (1 : Int32))), (0, .ref a_this), (1, .ref a_p1), (2, .int p2), (3, .int p3)] → f_X1_putTo_L55 r_this_digits p2 p3 fuel r_p1_bytes_L55 x6 = F → W p l e ({ frames := 1, cells := 0, slots := 0, locals := 22 } : Room) s m ([.ref a_this, .ref a_p1, .int p2, .int p3] : List Value).toArray below meth c H locs 0 0 Q (F0 m 55 ls []) := by
      intro fuel
      induction fuel with
      | zero => intro r_p1_bytes_L55 x6 H locs ls hm; exact absurd hm (Nat.not_lt_zero _)
      | succ fuel ih =>
        intro r_p1_bytes_L55 x6 H locs ls hm hv hP hD hS hl hF
        rw [f_X1_putTo_L55] at hF
        skip
        refine lv_iload hx hb dX1_putTo_55 (lv_at hl 0 rfl) ?_
        refine lv_iconst (v := 1) hx hb dX1_putTo_57 (by decide) ?_
        refine lv_iadd hx hb dX1_putTo_58 ?_
        refine lv_iload hx hb dX1_putTo_59 (lv_at hl 2 rfl) ?_
        refine lv_icmp_ge (tgt := 112) hx hb dX1_putTo_61 (by decide) (fun c_4 => ?_) (fun c_4 => ?_)
        · skip
          rw [if_pos c_4] at hF
          refine lv_aload_n hx hb dX1_putTo_112 rfl (lv_at hl 3 rfl) ?_
          refine lv_iload hx hb dX1_putTo_113 (lv_at hl 2 rfl) ?_
          refine q_Vi (rest := []) (c_X1_isWithin l D a_this a_this_digits k_this_digits o_this r_this_digits (((2 : Int32) * p3) - (1 : Int32))) cv_X1_isWithin hx hb hml hown ht hN hK hA hP hD hS hl.1 (km_X1_43) ⟨Nat.le_of_ble_eq_true rfl, Nat.le_of_ble_eq_true rfl⟩ rfl rfl [0, 1] (by decide) rfl [0] rfl (fun _ => rfl) (ci := 1) rfl rfl rfl rfl rfl (Nat.le_of_ble_eq_true rfl) dX1_putTo_115 ⟨Nat.zero_le _, Nat.zero_le _⟩ (fun r u H locs hw hP hD hS => ?_)
          obtain ⟨rfl, rfl⟩ := hw
          have hP : va_P D vwCl [(a_this, oX1 a_this_digits o_this), (a_this_digits, .inl (k_this_digits, 32, .inl r_this_digits)), (a_p1, oX6 a_p1_bytes a_p1_keys), (a_p1_bytes, .inl (k_p1_bytes, 2048, .inl r_p1_bytes_L55))] H := hP
          have hD : va_D A [(a_this, oX1 a_this_digits o_this), (a_this_digits, .inl (k_this_digits, 32, .inl r_this_digits)), (a_p1, oX6 a_p1_bytes a_p1_keys), (a_p1_bytes, .inl (k_p1_bytes, 2048, .inl r_p1_bytes_L55))] := hD
          exact hQ (f_X1_isWithin r_this_digits (((2 : Int32) * p3) - (1 : Int32))) ((f_X1_isWithin r_this_digits (((2 : Int32) * p3) - (1 : Int32))), r_p1_bytes_L55) _ _ _ _ dX1_putTo_118 ⟨hF.symm, rfl⟩ hP hD hS
        · skip
          rw [if_neg c_4] at hF
          refine lv_iload hx hb dX1_putTo_64 (lv_at hl 0 rfl) ?_
          refine lv_iconst (v := 1) hx hb dX1_putTo_66 (by decide) ?_
          refine lv_iadd hx hb dX1_putTo_67 ?_
          refine lv_bipush (v := 32) hx hb dX1_putTo_68 (by decide) ?_
          refine lv_icmp_ge (tgt := 112) hx hb dX1_putTo_70 (by decide) (fun c_6 => ?_) (fun c_6 => ?_)
          · skip
            rw [if_pos c_6] at hF
            refine lv_aload_n hx hb dX1_putTo_112 rfl (lv_at hl 3 rfl) ?_
            refine lv_iload hx hb dX1_putTo_113 (lv_at hl 2 rfl) ?_
            refine q_Vi (rest := []) (c_X1_isWithin l D a_this a_this_digits k_this_digits o_this r_this_digits (((2 : Int32) * p3) - (1 : Int32))) cv_X1_isWithin hx hb hml hown ht hN hK hA hP hD hS hl.1 (km_X1_43) ⟨Nat.le_of_ble_eq_true rfl, Nat.le_of_ble_eq_true rfl⟩ rfl rfl [0, 1] (by decide) rfl [0] rfl (fun _ => rfl) (ci := 1) rfl rfl rfl rfl rfl (Nat.le_of_ble_eq_true rfl) dX1_putTo_115 ⟨Nat.zero_le _, Nat.zero_le _⟩ (fun r u H locs hw hP hD hS => ?_)
            obtain ⟨rfl, rfl⟩ := hw
            have hP : va_P D vwCl [(a_this, oX1 a_this_digits o_this), (a_this_digits, .inl (k_this_digits, 32, .inl r_this_digits)), (a_p1, oX6 a_p1_bytes a_p1_keys), (a_p1_bytes, .inl (k_p1_bytes, 2048, .inl r_p1_bytes_L55))] H := hP
            have hD : va_D A [(a_this, oX1 a_this_digits o_this), (a_this_digits, .inl (k_this_digits, 32, .inl r_this_digits)), (a_p1, oX6 a_p1_bytes a_p1_keys), (a_p1_bytes, .inl (k_p1_bytes, 2048, .inl r_p1_bytes_L55))] := hD
            exact hQ (f_X1_isWithin r_this_digits (((2 : Int32) * p3) - (1 : Int32))) ((f_X1_isWithin r_this_digits (((2 : Int32) * p3) - (1 : Int32))), r_p1_bytes_L55) _ _ _ _ dX1_putTo_118 ⟨hF.symm, rfl⟩ hP hD hS
          · skip
            rw [if_neg c_6] at hF
            refine lv_aload_n hx hb dX1_putTo_73 rfl (lv_at hl 4 rfl) ?_
            refine lv_iload_n hx hb dX1_putTo_74 rfl (lv_at hl 5 rfl) ?_
            refine lv_iload_n hx hb dX1_putTo_75 rfl (lv_at hl 6 rfl) ?_
            refine lv_iadd hx hb dX1_putTo_76 ?_
            refine lv_iconst (v := 2) hx hb dX1_putTo_77 (by decide) ?_
            refine lv_isub hx hb dX1_putTo_78 ?_
            refine lv_iload hx hb dX1_putTo_79 (lv_at hl 0 rfl) ?_
            refine lv_iconst (v := 2) hx hb dX1_putTo_81 (by decide) ?_
            refine lv_idiv hx hb dX1_putTo_82 (by decide) ?_
            refine lv_isub hx hb dX1_putTo_83 ?_
            refine lv_aload_n hx hb dX1_putTo_84 rfl (lv_at hl 3 rfl) ?_
            refine gf_X1_9 (v := .ref a_this_digits) hx hb hown ht hK hP 0 rfl rfl dX1_putTo_85 ?_
            refine lv_iload hx hb dX1_putTo_88 (lv_at hl 0 rfl) ?_
            refine lv_iconst (v := 1) hx hb dX1_putTo_90 (by decide) ?_
            refine lv_iadd hx hb dX1_putTo_91 ?_
            refine va_iald hx hb hK hP 1 0 rfl rfl (q_r33_a hv c_6) dX1_putTo_92 ?_
            refine lv_iconst (v := 4) hx hb dX1_putTo_93 (by decide) ?_
            refine lv_ishl hx hb dX1_putTo_94 ?_
            refine lv_aload_n hx hb dX1_putTo_95 rfl (lv_at hl 3 rfl) ?_
            refine gf_X1_9 (v := .ref a_this_digits) hx hb hown ht hK hP 0 rfl rfl dX1_putTo_96 ?_
            refine lv_iload hx hb dX1_putTo_99 (lv_at hl 0 rfl) ?_
            refine va_iald hx hb hK hP 1 0 rfl rfl (q_r33_b hv c_6) dX1_putTo_101 ?_
            refine lv_ior hx hb dX1_putTo_102 ?_
            refine q_Vv (rest := []) (c_X6_putByte l D a_p1 a_p1_bytes a_p1_keys k_p1_bytes r_p1_bytes_L55 (((p2 + p3) - (2 : Int32)) - (x6 / (2 : Int32))) (((r_this_digits (x6 + (1 : Int32)).toNatClampNeg) <<< ((4 : Int32) &&& 31)) ||| (r_this_digits x6.toNatClampNeg))) cv_X6_putByte hx hb hml hown ht hN hK hA hP hD hS hl.1 (km_X1_39) ⟨Nat.le_of_ble_eq_true rfl, Nat.le_of_ble_eq_true rfl⟩ rfl rfl [2, 3] (by decide) rfl [1] rfl (fun _ => rfl) (ci := 6) rfl rfl rfl rfl rfl (Nat.le_of_ble_eq_true rfl) dX1_putTo_103 ⟨Nat.zero_le _, Nat.zero_le _⟩ (fun w_8 H locs hw hP hD hS => ?_)
            have hP : va_P D vwCl [(a_this, oX1 a_this_digits o_this), (a_this_digits, .inl (k_this_digits, 32, .inl r_this_digits)), (a_p1, oX6 a_p1_bytes a_p1_keys), (a_p1_bytes, .inl (k_p1_bytes, 2048, .inl w_8))] H := hP
            have hD : va_D A [(a_this, oX1 a_this_digits o_this), (a_this_digits, .inl (k_this_digits, 32, .inl r_this_digits)), (a_p1, oX6 a_p1_bytes a_p1_keys), (a_p1_bytes, .inl (k_p1_bytes, 2048, .inl w_8))] := hD
            rw [q_let_of hw] at hF
            refine lv_iinc (v := (x6 + (2 : Int32))) (lv' := [(6, .int (x6 + (2 : Int32))), (5, .int 12), (4, .int (((2 : Int32) * p3) - (1 : Int32))), (0, .ref a_this), (1, .ref a_p1), (2, .int p2), (3, .int p3)]) hx hb dX1_putTo_106 hl (k := 0) rfl rfl (by decide) rfl (fun ls hl => ?_)
            refine lv_goto (tgt := 55) hx hb dX1_putTo_109 (by decide) ?_
            exact ih w_8 (x6 + (2 : Int32)) _ _ _ (q_up2 hm hv c_6) (q_r33_2 hv c_6) hP hD hS (lv_sub hl [0, 1, 2, 3, 4, 5, 6] rfl) hF
    exact L55 (((32 : Int32).toInt - (1 : Int32).toInt).toNat + 1) w_2 1 _ _ _ (Nat.lt_succ_self _) (by unfold q_r33; decide) hP hD hS (lv_sub hl [0, 1, 2, 3, 4, 5, 6] rfl) hF
  · have c_1 := (bI_ne0 _).mp c_1
    rw [if_pos c_1] at hF
    refine lv_aload_n hx hb dX1_putTo_14 rfl (lv_at hl 1 rfl) ?_
    refine lv_iload hx hb dX1_putTo_15 (lv_at hl 0 rfl) ?_
    refine q_Vi (rest := []) (c_X1_isZero l D a_this a_this_digits k_this_digits o_this r_this_digits (((2 : Int32) * p3) - (1 : Int32))) cv_X1_isZero hx hb hml hown ht hN hK hA hP hD hS hl.1 (km_X1_29) ⟨Nat.le_of_ble_eq_true rfl, Nat.le_of_ble_eq_true rfl⟩ rfl rfl [0, 1] (by decide) rfl [0] rfl (fun _ => rfl) (ci := 1) rfl rfl rfl rfl rfl (Nat.le_of_ble_eq_true rfl) dX1_putTo_17 ⟨Nat.zero_le _, Nat.zero_le _⟩ (fun r u H locs hw hP hD hS => ?_)
    obtain ⟨rfl, rfl⟩ := hw
    have hP : va_P D vwCl [(a_this, oX1 a_this_digits o_this), (a_this_digits, .inl (k_this_digits, 32, .inl r_this_digits)), (a_p1, oX6 a_p1_bytes a_p1_keys), (a_p1_bytes, .inl (k_p1_bytes, 2048, .inl r_p1_bytes))] H := hP
    have hD : va_D A [(a_this, oX1 a_this_digits o_this), (a_this_digits, .inl (k_this_digits, 32, .inl r_this_digits)), (a_p1, oX6 a_p1_bytes a_p1_keys), (a_p1_bytes, .inl (k_p1_bytes, 2048, .inl r_p1_bytes))] := hD
    refine lv_if_ne (tgt := 28) hx hb dX1_putTo_20 (by decide) (fun c_10 => ?_) (fun c_10 => ?_)
    · have c_10 := (bI_ne0 _).mp c_10
      rw [if_pos c_10] at hF
      refine lv_bipush (v := 12) hx hb dX1_putTo_28 (by decide) ?_
      refine lv_istore (lv' := [(5, .int 12), (4, .int (((2 : Int32) * p3) - (1 : Int32))), (0, .ref a_this), (1, .ref a_p1), (2, .int p2), (3, .int p3)]) hx hb dX1_putTo_30 hl (by decide) rfl (fun ls hl => ?_)
      refine lv_aload_n hx hb dX1_putTo_32 rfl (lv_at hl 3 rfl) ?_
      refine lv_iload_n hx hb dX1_putTo_33 rfl (lv_at hl 4 rfl) ?_
      refine lv_iload_n hx hb dX1_putTo_34 rfl (lv_at hl 5 rfl) ?_
      refine lv_iadd hx hb dX1_putTo_35 ?_
      refine lv_iconst (v := 1) hx hb dX1_putTo_36 (by decide) ?_
      refine lv_isub hx hb dX1_putTo_37 ?_
      refine lv_aload_n hx hb dX1_putTo_38 rfl (lv_at hl 2 rfl) ?_
      refine gf_X1_9 (v := .ref a_this_digits) hx hb hown ht hK hP 0 rfl rfl dX1_putTo_39 ?_
      refine lv_iconst (v := 0) hx hb dX1_putTo_42 (by decide) ?_
      refine va_iald hx hb hK hP 1 0 rfl rfl (vp_in_iff.mpr (by decide)) dX1_putTo_43 ?_
      refine lv_iconst (v := 4) hx hb dX1_putTo_44 (by decide) ?_
      refine lv_ishl hx hb dX1_putTo_45 ?_
      refine lv_iload hx hb dX1_putTo_46 (lv_at hl 0 rfl) ?_
      refine lv_ior hx hb dX1_putTo_48 ?_
      refine q_Vv (rest := []) (c_X6_putByte l D a_p1 a_p1_bytes a_p1_keys k_p1_bytes r_p1_bytes ((p2 + p3) - (1 : Int32)) (((r_this_digits (0 : Int32).toNatClampNeg) <<< ((4 : Int32) &&& 31)) ||| (12 : Int32))) cv_X6_putByte hx hb hml hown ht hN hK hA hP hD hS hl.1 (km_X1_39) ⟨Nat.le_of_ble_eq_true rfl, Nat.le_of_ble_eq_true rfl⟩ rfl rfl [2, 3] (by decide) rfl [1] rfl (fun _ => rfl) (ci := 6) rfl rfl rfl rfl rfl (Nat.le_of_ble_eq_true rfl) dX1_putTo_49 ⟨Nat.zero_le _, Nat.zero_le _⟩ (fun w_11 H locs hw hP hD hS => ?_)
      have hP : va_P D vwCl [(a_this, oX1 a_this_digits o_this), (a_this_digits, .inl (k_this_digits, 32, .inl r_this_digits)), (a_p1, oX6 a_p1_bytes a_p1_keys), (a_p1_bytes, .inl (k_p1_bytes, 2048, .inl w_11))] H := hP
      have hD : va_D A [(a_this, oX1 a_this_digits o_this), (a_this_digits, .inl (k_this_digits, 32, .inl r_this_digits)), (a_p1, oX6 a_p1_bytes a_p1_keys), (a_p1_bytes, .inl (k_p1_bytes, 2048, .inl w_11))] := hD
      rw [q_let_of hw] at hF
      refine lv_iconst (v := 1) hx hb dX1_putTo_52 (by decide) ?_
      refine lv_istore (lv' := [(6, .int 1), (5, .int 12), (4, .int (((2 : Int32) * p3) - (1 : Int32))), (0, .ref a_this), (1, .ref a_p1), (2, .int p2), (3, .int p3)]) hx hb dX1_putTo_53 hl (by decide) rfl (fun ls hl => ?_)
      have L55 : ∀ (fuel : Nat) (r_p1_bytes_L55 : Nat → Int32) (x6 : Int32) (H : Heap) (locs : List Loc) (ls : Array Slot), ((32 : Int32).toInt - (x6 : Int32).toInt).toNat < fuel → q_r33 x6 → va_P D vwCl [(a_this, oX1 a_this_digits o_this), (a_this_digits, .inl (k_this_digits, 32, .inl r_this_digits)), (a_p1, oX6 a_p1_bytes a_p1_keys), (a_p1_bytes, .inl (k_p1_bytes, 2048, .inl r_p1_bytes_L55))] H → va_D A [(a_this, oX1 a_this_digits o_this), (a_this_digits, .inl (k_this_digits, 32, .inl r_this_digits)), (a_p1, oX6 a_p1_bytes a_p1_keys), (a_p1_bytes, .inl (k_p1_bytes, 2048, .inl r_p1_bytes_L55))] → va_S A s.heap H locs → lv_has ls 7 [(6, .int x6), (5, .int 12), (4, .int (((2 : Int32) * p3) - (1 : Int32))), (0, .ref a_this), (1, .ref a_p1), (2, .int p2), (3, .int p3)] → f_X1_putTo_L55b r_this_digits p2 p3 fuel r_p1_bytes_L55 x6 = F → W p l e ({ frames := 1, cells := 0, slots := 0, locals := 22 } : Room) s m ([.ref a_this, .ref a_p1, .int p2, .int p3] : List Value).toArray below meth c H locs 0 0 Q (F0 m 55 ls []) := by
        intro fuel
        induction fuel with
        | zero => intro r_p1_bytes_L55 x6 H locs ls hm; exact absurd hm (Nat.not_lt_zero _)
        | succ fuel ih =>
          intro r_p1_bytes_L55 x6 H locs ls hm hv hP hD hS hl hF
          rw [f_X1_putTo_L55b] at hF
          skip
          refine lv_iload hx hb dX1_putTo_55 (lv_at hl 0 rfl) ?_
          refine lv_iconst (v := 1) hx hb dX1_putTo_57 (by decide) ?_
          refine lv_iadd hx hb dX1_putTo_58 ?_
          refine lv_iload hx hb dX1_putTo_59 (lv_at hl 2 rfl) ?_
          refine lv_icmp_ge (tgt := 112) hx hb dX1_putTo_61 (by decide) (fun c_13 => ?_) (fun c_13 => ?_)
          · skip
            rw [if_pos c_13] at hF
            refine lv_aload_n hx hb dX1_putTo_112 rfl (lv_at hl 3 rfl) ?_
            refine lv_iload hx hb dX1_putTo_113 (lv_at hl 2 rfl) ?_
            refine q_Vi (rest := []) (c_X1_isWithin l D a_this a_this_digits k_this_digits o_this r_this_digits (((2 : Int32) * p3) - (1 : Int32))) cv_X1_isWithin hx hb hml hown ht hN hK hA hP hD hS hl.1 (km_X1_43) ⟨Nat.le_of_ble_eq_true rfl, Nat.le_of_ble_eq_true rfl⟩ rfl rfl [0, 1] (by decide) rfl [0] rfl (fun _ => rfl) (ci := 1) rfl rfl rfl rfl rfl (Nat.le_of_ble_eq_true rfl) dX1_putTo_115 ⟨Nat.zero_le _, Nat.zero_le _⟩ (fun r u H locs hw hP hD hS => ?_)
            obtain ⟨rfl, rfl⟩ := hw
            have hP : va_P D vwCl [(a_this, oX1 a_this_digits o_this), (a_this_digits, .inl (k_this_digits, 32, .inl r_this_digits)), (a_p1, oX6 a_p1_bytes a_p1_keys), (a_p1_bytes, .inl (k_p1_bytes, 2048, .inl r_p1_bytes_L55))] H := hP
            have hD : va_D A [(a_this, oX1 a_this_digits o_this), (a_this_digits, .inl (k_this_digits, 32, .inl r_this_digits)), (a_p1, oX6 a_p1_bytes a_p1_keys), (a_p1_bytes, .inl (k_p1_bytes, 2048, .inl r_p1_bytes_L55))] := hD
            exact hQ (f_X1_isWithin r_this_digits (((2 : Int32) * p3) - (1 : Int32))) ((f_X1_isWithin r_this_digits (((2 : Int32) * p3) - (1 : Int32))), r_p1_bytes_L55) _ _ _ _ dX1_putTo_118 ⟨hF.symm, rfl⟩ hP hD hS
          · skip
            rw [if_neg c_13] at hF
            refine lv_iload hx hb dX1_putTo_64 (lv_at hl 0 rfl) ?_
            refine lv_iconst (v := 1) hx hb dX1_putTo_66 (by decide) ?_
            refine lv_iadd hx hb dX1_putTo_67 ?_
            refine lv_bipush (v := 32) hx hb dX1_putTo_68 (by decide) ?_
            refine lv_icmp_ge (tgt := 112) hx hb dX1_putTo_70 (by decide) (fun c_15 => ?_) (fun c_15 => ?_)
            · skip
              rw [if_pos c_15] at hF
              refine lv_aload_n hx hb dX1_putTo_112 rfl (lv_at hl 3 rfl) ?_
              refine lv_iload hx hb dX1_putTo_113 (lv_at hl 2 rfl) ?_
              refine q_Vi (rest := []) (c_X1_isWithin l D a_this a_this_digits k_this_digits o_this r_this_digits (((2 : Int32) * p3) - (1 : Int32))) cv_X1_isWithin hx hb hml hown ht hN hK hA hP hD hS hl.1 (km_X1_43) ⟨Nat.le_of_ble_eq_true rfl, Nat.le_of_ble_eq_true rfl⟩ rfl rfl [0, 1] (by decide) rfl [0] rfl (fun _ => rfl) (ci := 1) rfl rfl rfl rfl rfl (Nat.le_of_ble_eq_true rfl) dX1_putTo_115 ⟨Nat.zero_le _, Nat.zero_le _⟩ (fun r u H locs hw hP hD hS => ?_)
              obtain ⟨rfl, rfl⟩ := hw
              have hP : va_P D vwCl [(a_this, oX1 a_this_digits o_this), (a_this_digits, .inl (k_this_digits, 32, .inl r_this_digits)), (a_p1, oX6 a_p1_bytes a_p1_keys), (a_p1_bytes, .inl (k_p1_bytes, 2048, .inl r_p1_bytes_L55))] H := hP
              have hD : va_D A [(a_this, oX1 a_this_digits o_this), (a_this_digits, .inl (k_this_digits, 32, .inl r_this_digits)), (a_p1, oX6 a_p1_bytes a_p1_keys), (a_p1_bytes, .inl (k_p1_bytes, 2048, .inl r_p1_bytes_L55))] := hD
              exact hQ (f_X1_isWithin r_this_digits (((2 : Int32) * p3) - (1 : Int32))) ((f_X1_isWithin r_this_digits (((2 : Int32) * p3) - (1 : Int32))), r_p1_bytes_L55) _ _ _ _ dX1_putTo_118 ⟨hF.symm, rfl⟩ hP hD hS
            · skip
              rw [if_neg c_15] at hF
              refine lv_aload_n hx hb dX1_putTo_73 rfl (lv_at hl 4 rfl) ?_
              refine lv_iload_n hx hb dX1_putTo_74 rfl (lv_at hl 5 rfl) ?_
              refine lv_iload_n hx hb dX1_putTo_75 rfl (lv_at hl 6 rfl) ?_
              refine lv_iadd hx hb dX1_putTo_76 ?_
              refine lv_iconst (v := 2) hx hb dX1_putTo_77 (by decide) ?_
              refine lv_isub hx hb dX1_putTo_78 ?_
              refine lv_iload hx hb dX1_putTo_79 (lv_at hl 0 rfl) ?_
              refine lv_iconst (v := 2) hx hb dX1_putTo_81 (by decide) ?_
              refine lv_idiv hx hb dX1_putTo_82 (by decide) ?_
              refine lv_isub hx hb dX1_putTo_83 ?_
              refine lv_aload_n hx hb dX1_putTo_84 rfl (lv_at hl 3 rfl) ?_
              refine gf_X1_9 (v := .ref a_this_digits) hx hb hown ht hK hP 0 rfl rfl dX1_putTo_85 ?_
              refine lv_iload hx hb dX1_putTo_88 (lv_at hl 0 rfl) ?_
              refine lv_iconst (v := 1) hx hb dX1_putTo_90 (by decide) ?_
              refine lv_iadd hx hb dX1_putTo_91 ?_
              refine va_iald hx hb hK hP 1 0 rfl rfl (q_r33_a hv c_15) dX1_putTo_92 ?_
              refine lv_iconst (v := 4) hx hb dX1_putTo_93 (by decide) ?_
              refine lv_ishl hx hb dX1_putTo_94 ?_
              refine lv_aload_n hx hb dX1_putTo_95 rfl (lv_at hl 3 rfl) ?_
              refine gf_X1_9 (v := .ref a_this_digits) hx hb hown ht hK hP 0 rfl rfl dX1_putTo_96 ?_
              refine lv_iload hx hb dX1_putTo_99 (lv_at hl 0 rfl) ?_
              refine va_iald hx hb hK hP 1 0 rfl rfl (q_r33_b hv c_15) dX1_putTo_101 ?_
              refine lv_ior hx hb dX1_putTo_102 ?_
              refine q_Vv (rest := []) (c_X6_putByte l D a_p1 a_p1_bytes a_p1_keys k_p1_bytes r_p1_bytes_L55 (((p2 + p3) - (2 : Int32)) - (x6 / (2 : Int32))) (((r_this_digits (x6 + (1 : Int32)).toNatClampNeg) <<< ((4 : Int32) &&& 31)) ||| (r_this_digits x6.toNatClampNeg))) cv_X6_putByte hx hb hml hown ht hN hK hA hP hD hS hl.1 (km_X1_39) ⟨Nat.le_of_ble_eq_true rfl, Nat.le_of_ble_eq_true rfl⟩ rfl rfl [2, 3] (by decide) rfl [1] rfl (fun _ => rfl) (ci := 6) rfl rfl rfl rfl rfl (Nat.le_of_ble_eq_true rfl) dX1_putTo_103 ⟨Nat.zero_le _, Nat.zero_le _⟩ (fun w_17 H locs hw hP hD hS => ?_)
              have hP : va_P D vwCl [(a_this, oX1 a_this_digits o_this), (a_this_digits, .inl (k_this_digits, 32, .inl r_this_digits)), (a_p1, oX6 a_p1_bytes a_p1_keys), (a_p1_bytes, .inl (k_p1_bytes, 2048, .inl w_17))] H := hP
              have hD : va_D A [(a_this, oX1 a_this_digits o_this), (a_this_digits, .inl (k_this_digits, 32, .inl r_this_digits)), (a_p1, oX6 a_p1_bytes a_p1_keys), (a_p1_bytes, .inl (k_p1_bytes, 2048, .inl w_17))] := hD
              rw [q_let_of hw] at hF
              refine lv_iinc (v := (x6 + (2 : Int32))) (lv' := [(6, .int (x6 + (2 : Int32))), (5, .int 12), (4, .int (((2 : Int32) * p3) - (1 : Int32))), (0, .ref a_this), (1, .ref a_p1), (2, .int p2), (3, .int p3)]) hx hb dX1_putTo_106 hl (k := 0) rfl rfl (by decide) rfl (fun ls hl => ?_)
              refine lv_goto (tgt := 55) hx hb dX1_putTo_109 (by decide) ?_
              exact ih w_17 (x6 + (2 : Int32)) _ _ _ (q_up2 hm hv c_15) (q_r33_2 hv c_15) hP hD hS (lv_sub hl [0, 1, 2, 3, 4, 5, 6] rfl) hF
      exact L55 (((32 : Int32).toInt - (1 : Int32).toInt).toNat + 1) w_11 1 _ _ _ (Nat.lt_succ_self _) (by unfold q_r33; decide) hP hD hS (lv_sub hl [0, 1, 2, 3, 4, 5, 6] rfl) hF
    · have c_10 : ¬ (f_X1_isZero r_this_digits (((2 : Int32) * p3) - (1 : Int32))) = true := by rw [(bI_eq0 _).mp c_10]; decide
      rw [if_neg c_10] at hF
      refine lv_bipush (v := 13) hx hb dX1_putTo_23 (by decide) ?_
      refine lv_goto (tgt := 30) hx hb dX1_putTo_25 (by decide) ?_
      refine lv_istore (lv' := [(5, .int 13), (4, .int (((2 : Int32) * p3) - (1 : Int32))), (0, .ref a_this), (1, .ref a_p1), (2, .int p2), (3, .int p3)]) hx hb dX1_putTo_30 hl (by decide) rfl (fun ls hl => ?_)
      refine lv_aload_n hx hb dX1_putTo_32 rfl (lv_at hl 3 rfl) ?_
      refine lv_iload_n hx hb dX1_putTo_33 rfl (lv_at hl 4 rfl) ?_
      refine lv_iload_n hx hb dX1_putTo_34 rfl (lv_at hl 5 rfl) ?_
      refine lv_iadd hx hb dX1_putTo_35 ?_
      refine lv_iconst (v := 1) hx hb dX1_putTo_36 (by decide) ?_
      refine lv_isub hx hb dX1_putTo_37 ?_
      refine lv_aload_n hx hb dX1_putTo_38 rfl (lv_at hl 2 rfl) ?_
      refine gf_X1_9 (v := .ref a_this_digits) hx hb hown ht hK hP 0 rfl rfl dX1_putTo_39 ?_
      refine lv_iconst (v := 0) hx hb dX1_putTo_42 (by decide) ?_
      refine va_iald hx hb hK hP 1 0 rfl rfl (vp_in_iff.mpr (by decide)) dX1_putTo_43 ?_
      refine lv_iconst (v := 4) hx hb dX1_putTo_44 (by decide) ?_
      refine lv_ishl hx hb dX1_putTo_45 ?_
      refine lv_iload hx hb dX1_putTo_46 (lv_at hl 0 rfl) ?_
      refine lv_ior hx hb dX1_putTo_48 ?_
      refine q_Vv (rest := []) (c_X6_putByte l D a_p1 a_p1_bytes a_p1_keys k_p1_bytes r_p1_bytes ((p2 + p3) - (1 : Int32)) (((r_this_digits (0 : Int32).toNatClampNeg) <<< ((4 : Int32) &&& 31)) ||| (13 : Int32))) cv_X6_putByte hx hb hml hown ht hN hK hA hP hD hS hl.1 (km_X1_39) ⟨Nat.le_of_ble_eq_true rfl, Nat.le_of_ble_eq_true rfl⟩ rfl rfl [2, 3] (by decide) rfl [1] rfl (fun _ => rfl) (ci := 6) rfl rfl rfl rfl rfl (Nat.le_of_ble_eq_true rfl) dX1_putTo_49 ⟨Nat.zero_le _, Nat.zero_le _⟩ (fun w_18 H locs hw hP hD hS => ?_)
      have hP : va_P D vwCl [(a_this, oX1 a_this_digits o_this), (a_this_digits, .inl (k_this_digits, 32, .inl r_this_digits)), (a_p1, oX6 a_p1_bytes a_p1_keys), (a_p1_bytes, .inl (k_p1_bytes, 2048, .inl w_18))] H := hP
      have hD : va_D A [(a_this, oX1 a_this_digits o_this), (a_this_digits, .inl (k_this_digits, 32, .inl r_this_digits)), (a_p1, oX6 a_p1_bytes a_p1_keys), (a_p1_bytes, .inl (k_p1_bytes, 2048, .inl w_18))] := hD
      rw [q_let_of hw] at hF
      refine lv_iconst (v := 1) hx hb dX1_putTo_52 (by decide) ?_
      refine lv_istore (lv' := [(6, .int 1), (5, .int 13), (4, .int (((2 : Int32) * p3) - (1 : Int32))), (0, .ref a_this), (1, .ref a_p1), (2, .int p2), (3, .int p3)]) hx hb dX1_putTo_53 hl (by decide) rfl (fun ls hl => ?_)
      have L55 : ∀ (fuel : Nat) (r_p1_bytes_L55 : Nat → Int32) (x6 : Int32) (H : Heap) (locs : List Loc) (ls : Array Slot), ((32 : Int32).toInt - (x6 : Int32).toInt).toNat < fuel → q_r33 x6 → va_P D vwCl [(a_this, oX1 a_this_digits o_this), (a_this_digits, .inl (k_this_digits, 32, .inl r_this_digits)), (a_p1, oX6 a_p1_bytes a_p1_keys), (a_p1_bytes, .inl (k_p1_bytes, 2048, .inl r_p1_bytes_L55))] H → va_D A [(a_this, oX1 a_this_digits o_this), (a_this_digits, .inl (k_this_digits, 32, .inl r_this_digits)), (a_p1, oX6 a_p1_bytes a_p1_keys), (a_p1_bytes, .inl (k_p1_bytes, 2048, .inl r_p1_bytes_L55))] → va_S A s.heap H locs → lv_has ls 7 [(6, .int x6), (5, .int 13), (4, .int (((2 : Int32) * p3) - (1 : Int32))), (0, .ref a_this), (1, .ref a_p1), (2, .int p2), (3, .int p3)] → f_X1_putTo_L55bb r_this_digits p2 p3 fuel r_p1_bytes_L55 x6 = F → W p l e ({ frames := 1, cells := 0, slots := 0, locals := 22 } : Room) s m ([.ref a_this, .ref a_p1, .int p2, .int p3] : List Value).toArray below meth c H locs 0 0 Q (F0 m 55 ls []) := by
        intro fuel
        induction fuel with
        | zero => intro r_p1_bytes_L55 x6 H locs ls hm; exact absurd hm (Nat.not_lt_zero _)
        | succ fuel ih =>
          intro r_p1_bytes_L55 x6 H locs ls hm hv hP hD hS hl hF
          rw [f_X1_putTo_L55bb] at hF
          skip
          refine lv_iload hx hb dX1_putTo_55 (lv_at hl 0 rfl) ?_
          refine lv_iconst (v := 1) hx hb dX1_putTo_57 (by decide) ?_
          refine lv_iadd hx hb dX1_putTo_58 ?_
          refine lv_iload hx hb dX1_putTo_59 (lv_at hl 2 rfl) ?_
          refine lv_icmp_ge (tgt := 112) hx hb dX1_putTo_61 (by decide) (fun c_20 => ?_) (fun c_20 => ?_)
          · skip
            rw [if_pos c_20] at hF
            refine lv_aload_n hx hb dX1_putTo_112 rfl (lv_at hl 3 rfl) ?_
            refine lv_iload hx hb dX1_putTo_113 (lv_at hl 2 rfl) ?_
            refine q_Vi (rest := []) (c_X1_isWithin l D a_this a_this_digits k_this_digits o_this r_this_digits (((2 : Int32) * p3) - (1 : Int32))) cv_X1_isWithin hx hb hml hown ht hN hK hA hP hD hS hl.1 (km_X1_43) ⟨Nat.le_of_ble_eq_true rfl, Nat.le_of_ble_eq_true rfl⟩ rfl rfl [0, 1] (by decide) rfl [0] rfl (fun _ => rfl) (ci := 1) rfl rfl rfl rfl rfl (Nat.le_of_ble_eq_true rfl) dX1_putTo_115 ⟨Nat.zero_le _, Nat.zero_le _⟩ (fun r u H locs hw hP hD hS => ?_)
            obtain ⟨rfl, rfl⟩ := hw
            have hP : va_P D vwCl [(a_this, oX1 a_this_digits o_this), (a_this_digits, .inl (k_this_digits, 32, .inl r_this_digits)), (a_p1, oX6 a_p1_bytes a_p1_keys), (a_p1_bytes, .inl (k_p1_bytes, 2048, .inl r_p1_bytes_L55))] H := hP
            have hD : va_D A [(a_this, oX1 a_this_digits o_this), (a_this_digits, .inl (k_this_digits, 32, .inl r_this_digits)), (a_p1, oX6 a_p1_bytes a_p1_keys), (a_p1_bytes, .inl (k_p1_bytes, 2048, .inl r_p1_bytes_L55))] := hD
            exact hQ (f_X1_isWithin r_this_digits (((2 : Int32) * p3) - (1 : Int32))) ((f_X1_isWithin r_this_digits (((2 : Int32) * p3) - (1 : Int32))), r_p1_bytes_L55) _ _ _ _ dX1_putTo_118 ⟨hF.symm, rfl⟩ hP hD hS
          · skip
            rw [if_neg c_20] at hF
            refine lv_iload hx hb dX1_putTo_64 (lv_at hl 0 rfl) ?_
            refine lv_iconst (v := 1) hx hb dX1_putTo_66 (by decide) ?_
            refine lv_iadd hx hb dX1_putTo_67 ?_
            refine lv_bipush (v := 32) hx hb dX1_putTo_68 (by decide) ?_
            refine lv_icmp_ge (tgt := 112) hx hb dX1_putTo_70 (by decide) (fun c_22 => ?_) (fun c_22 => ?_)
            · skip
              rw [if_pos c_22] at hF
              refine lv_aload_n hx hb dX1_putTo_112 rfl (lv_at hl 3 rfl) ?_
              refine lv_iload hx hb dX1_putTo_113 (lv_at hl 2 rfl) ?_
              refine q_Vi (rest := []) (c_X1_isWithin l D a_this a_this_digits k_this_digits o_this r_this_digits (((2 : Int32) * p3) - (1 : Int32))) cv_X1_isWithin hx hb hml hown ht hN hK hA hP hD hS hl.1 (km_X1_43) ⟨Nat.le_of_ble_eq_true rfl, Nat.le_of_ble_eq_true rfl⟩ rfl rfl [0, 1] (by decide) rfl [0] rfl (fun _ => rfl) (ci := 1) rfl rfl rfl rfl rfl (Nat.le_of_ble_eq_true rfl) dX1_putTo_115 ⟨Nat.zero_le _, Nat.zero_le _⟩ (fun r u H locs hw hP hD hS => ?_)
              obtain ⟨rfl, rfl⟩ := hw
              have hP : va_P D vwCl [(a_this, oX1 a_this_digits o_this), (a_this_digits, .inl (k_this_digits, 32, .inl r_this_digits)), (a_p1, oX6 a_p1_bytes a_p1_keys), (a_p1_bytes, .inl (k_p1_bytes, 2048, .inl r_p1_bytes_L55))] H := hP
              have hD : va_D A [(a_this, oX1 a_this_digits o_this), (a_this_digits, .inl (k_this_digits, 32, .inl r_this_digits)), (a_p1, oX6 a_p1_bytes a_p1_keys), (a_p1_bytes, .inl (k_p1_bytes, 2048, .inl r_p1_bytes_L55))] := hD
              exact hQ (f_X1_isWithin r_this_digits (((2 : Int32) * p3) - (1 : Int32))) ((f_X1_isWithin r_this_digits (((2 : Int32) * p3) - (1 : Int32))), r_p1_bytes_L55) _ _ _ _ dX1_putTo_118 ⟨hF.symm, rfl⟩ hP hD hS
            · skip
              rw [if_neg c_22] at hF
              refine lv_aload_n hx hb dX1_putTo_73 rfl (lv_at hl 4 rfl) ?_
              refine lv_iload_n hx hb dX1_putTo_74 rfl (lv_at hl 5 rfl) ?_
              refine lv_iload_n hx hb dX1_putTo_75 rfl (lv_at hl 6 rfl) ?_
              refine lv_iadd hx hb dX1_putTo_76 ?_
              refine lv_iconst (v := 2) hx hb dX1_putTo_77 (by decide) ?_
              refine lv_isub hx hb dX1_putTo_78 ?_
              refine lv_iload hx hb dX1_putTo_79 (lv_at hl 0 rfl) ?_
              refine lv_iconst (v := 2) hx hb dX1_putTo_81 (by decide) ?_
              refine lv_idiv hx hb dX1_putTo_82 (by decide) ?_
              refine lv_isub hx hb dX1_putTo_83 ?_
              refine lv_aload_n hx hb dX1_putTo_84 rfl (lv_at hl 3 rfl) ?_
              refine gf_X1_9 (v := .ref a_this_digits) hx hb hown ht hK hP 0 rfl rfl dX1_putTo_85 ?_
              refine lv_iload hx hb dX1_putTo_88 (lv_at hl 0 rfl) ?_
              refine lv_iconst (v := 1) hx hb dX1_putTo_90 (by decide) ?_
              refine lv_iadd hx hb dX1_putTo_91 ?_
              refine va_iald hx hb hK hP 1 0 rfl rfl (q_r33_a hv c_22) dX1_putTo_92 ?_
              refine lv_iconst (v := 4) hx hb dX1_putTo_93 (by decide) ?_
              refine lv_ishl hx hb dX1_putTo_94 ?_
              refine lv_aload_n hx hb dX1_putTo_95 rfl (lv_at hl 3 rfl) ?_
              refine gf_X1_9 (v := .ref a_this_digits) hx hb hown ht hK hP 0 rfl rfl dX1_putTo_96 ?_
              refine lv_iload hx hb dX1_putTo_99 (lv_at hl 0 rfl) ?_
              refine va_iald hx hb hK hP 1 0 rfl rfl (q_r33_b hv c_22) dX1_putTo_101 ?_
              refine lv_ior hx hb dX1_putTo_102 ?_
              refine q_Vv (rest := []) (c_X6_putByte l D a_p1 a_p1_bytes a_p1_keys k_p1_bytes r_p1_bytes_L55 (((p2 + p3) - (2 : Int32)) - (x6 / (2 : Int32))) (((r_this_digits (x6 + (1 : Int32)).toNatClampNeg) <<< ((4 : Int32) &&& 31)) ||| (r_this_digits x6.toNatClampNeg))) cv_X6_putByte hx hb hml hown ht hN hK hA hP hD hS hl.1 (km_X1_39) ⟨Nat.le_of_ble_eq_true rfl, Nat.le_of_ble_eq_true rfl⟩ rfl rfl [2, 3] (by decide) rfl [1] rfl (fun _ => rfl) (ci := 6) rfl rfl rfl rfl rfl (Nat.le_of_ble_eq_true rfl) dX1_putTo_103 ⟨Nat.zero_le _, Nat.zero_le _⟩ (fun w_24 H locs hw hP hD hS => ?_)
              have hP : va_P D vwCl [(a_this, oX1 a_this_digits o_this), (a_this_digits, .inl (k_this_digits, 32, .inl r_this_digits)), (a_p1, oX6 a_p1_bytes a_p1_keys), (a_p1_bytes, .inl (k_p1_bytes, 2048, .inl w_24))] H := hP
              have hD : va_D A [(a_this, oX1 a_this_digits o_this), (a_this_digits, .inl (k_this_digits, 32, .inl r_this_digits)), (a_p1, oX6 a_p1_bytes a_p1_keys), (a_p1_bytes, .inl (k_p1_bytes, 2048, .inl w_24))] := hD
              rw [q_let_of hw] at hF
              refine lv_iinc (v := (x6 + (2 : Int32))) (lv' := [(6, .int (x6 + (2 : Int32))), (5, .int 13), (4, .int (((2 : Int32) * p3) - (1 : Int32))), (0, .ref a_this), (1, .ref a_p1), (2, .int p2), (3, .int p3)]) hx hb dX1_putTo_106 hl (k := 0) rfl rfl (by decide) rfl (fun ls hl => ?_)
              refine lv_goto (tgt := 55) hx hb dX1_putTo_109 (by decide) ?_
              exact ih w_24 (x6 + (2 : Int32)) _ _ _ (q_up2 hm hv c_22) (q_r33_2 hv c_22) hP hD hS (lv_sub hl [0, 1, 2, 3, 4, 5, 6] rfl) hF
      exact L55 (((32 : Int32).toInt - (1 : Int32).toInt).toNat + 1) w_18 1 _ _ _ (Nat.lt_succ_self _) (by unfold q_r33; decide) hP hD hS (lv_sub hl [0, 1, 2, 3, 4, 5, 6] rfl) hF
theorem cv_X1_putTo : qV yX1_putTo cX1_putTo 7 (some .boolean) 3 := ⟨kc_X1_putTo, kt_X1_putTo, ks_X1_putTo, kn_X1, by decide, by decide +kernel⟩
def f_X1_addDigits_L4 (r_p1_digits : Nat → Int32) : Nat → (Nat → Int32) → Int32 → Int32 → Nat → Int32
  | 0, r_this_digits_L4, x3, x2 => r_this_digits_L4
  | fuel + 1, r_this_digits_L4, x3, x2 => (if (32 : Int32) ≤ x3 then r_this_digits_L4 else (if (((r_this_digits_L4 x3.toNatClampNeg) + (r_p1_digits x3.toNatClampNeg)) + x2) ≤ (9 : Int32) then f_X1_addDigits_L4 r_p1_digits fuel (upd r_this_digits_L4 x3.toNatClampNeg ((((r_this_digits_L4 x3.toNatClampNeg) + (r_p1_digits x3.toNatClampNeg)) + x2) - ((10 : Int32) * (0 : Int32)))) (x3 + (1 : Int32)) 0 else f_X1_addDigits_L4 r_p1_digits fuel (upd r_this_digits_L4 x3.toNatClampNeg ((((r_this_digits_L4 x3.toNatClampNeg) + (r_p1_digits x3.toNatClampNeg)) + x2) - ((10 : Int32) * (1 : Int32)))) (x3 + (1 : Int32)) 1))
def f_X1_addDigits (r_this_digits : Nat → Int32) (r_p1_digits : Nat → Int32) : Nat → Int32 := f_X1_addDigits_L4 r_p1_digits (((32 : Int32).toInt - (0 : Int32).toInt).toNat + 1) r_this_digits 0 0
set_option linter.all false in
set_option maxHeartbeats 4000000 in
set_option maxRecDepth 100000 in
theorem c_X1_addDigits (l : Launch) (D : va_G) (a_this a_this_digits a_p1 a_p1_digits : Nat) (k_this_digits k_p1_digits : ClassId) (o_this : Bool) (r_this_digits : Nat → Int32) (o_p1 : Bool) (r_p1_digits : Nat → Int32) : CtV l yX1_addDigits cX1_addDigits 5 none { frames := 0, cells := 0, slots := 0, locals := 0 } D [.ref a_this, .ref a_p1] [(a_this, oX1 a_this_digits o_this), (a_this_digits, .inl (k_this_digits, 32, .inl r_this_digits)), (a_p1, oX1 a_p1_digits o_p1), (a_p1_digits, .inl (k_p1_digits, 32, .inl r_p1_digits))] [(k_this_digits, .int), (k_p1_digits, .int)] (fun (u : Nat → Int32) => f_X1_addDigits r_this_digits r_p1_digits = u) (fun u => [(a_this, oX1 a_this_digits o_this), (a_this_digits, .inl (k_this_digits, 32, .inl u)), (a_p1, oX1 a_p1_digits o_p1), (a_p1_digits, .inl (k_p1_digits, 32, .inl r_p1_digits))]) := by
  refine CtV.of (by decide) (Nat.le_of_ble_eq_true rfl) ?_
  intro p e s m below meth c A ls Q hE hP hD hS hl hQ
  obtain ⟨hx, hb, hml, hown, ht, hN, hK, hA⟩ := hE
  have hown : s.vm.findClass RX1 = some m.cls := hown
  have hl : lv_has ls 5 [(0, .ref a_this), (1, .ref a_p1)] := hl
  obtain ⟨F, hF⟩ : ∃ F, f_X1_addDigits r_this_digits r_p1_digits = F := ⟨_, rfl⟩
  rw [hF] at hQ
  unfold f_X1_addDigits at hF
  refine lv_iconst (v := 0) hx hb dX1_addDigits_0 (by decide) ?_
  refine lv_istore_n (lv' := [(2, .int 0), (0, .ref a_this), (1, .ref a_p1)]) hx hb dX1_addDigits_1 rfl hl (by decide) rfl (fun ls hl => ?_)
  refine lv_iconst (v := 0) hx hb dX1_addDigits_2 (by decide) ?_
  refine lv_istore_n (lv' := [(3, .int 0), (2, .int 0), (0, .ref a_this), (1, .ref a_p1)]) hx hb dX1_addDigits_3 rfl hl (by decide) rfl (fun ls hl => ?_)
  have L4 : ∀ (fuel : Nat) (r_this_digits_L4 : Nat → Int32) (x3 : Int32) (x2 : Int32) (H : Heap) (locs : List Loc) (ls : Array Slot), ((32 : Int32).toInt - (x3 : Int32).toInt).toNat < fuel → ¬ x3 < 0 → va_P D vwCl [(a_this, oX1 a_this_digits o_this), (a_this_digits, .inl (k_this_digits, 32, .inl r_this_digits_L4)), (a_p1, oX1 a_p1_digits o_p1), (a_p1_digits, .inl (k_p1_digits, 32, .inl r_p1_digits))] H → va_D A [(a_this, oX1 a_this_digits o_this), (a_this_digits, .inl (k_this_digits, 32, .inl r_this_digits_L4)), (a_p1, oX1 a_p1_digits o_p1), (a_p1_digits, .inl (k_p1_digits, 32, .inl r_p1_digits))] → va_S A s.heap H locs → lv_has ls 5 [(3, .int x3), (2, .int x2), (0, .ref a_this), (1, .ref a_p1)] → f_X1_addDigits_L4 r_p1_digits fuel r_this_digits_L4 x3 x2 = F → W p l e ({ frames := 0, cells := 0, slots := 0, locals := 0 } : Room) s m ([.ref a_this, .ref a_p1] : List Value).toArray below meth c H locs 0 0 Q (F0 m 4 ls []) := by
    intro fuel
    induction fuel with
    | zero => intro r_this_digits_L4 x3 x2 H locs ls hm; exact absurd hm (Nat.not_lt_zero _)
    | succ fuel ih =>
      intro r_this_digits_L4 x3 x2 H locs ls hm hv hP hD hS hl hF
      rw [f_X1_addDigits_L4] at hF
      skip
      refine lv_iload_n hx hb dX1_addDigits_4 rfl (lv_at hl 0 rfl) ?_
      refine lv_bipush (v := 32) hx hb dX1_addDigits_5 (by decide) ?_
      refine lv_icmp_ge (tgt := 59) hx hb dX1_addDigits_7 (by decide) (fun c_2 => ?_) (fun c_2 => ?_)
      · skip
        rw [if_pos c_2] at hF
        exact hQ r_this_digits_L4 _ _ _ _ dX1_addDigits_59 hF.symm hP hD hS
      · skip
        rw [if_neg c_2] at hF
        refine lv_aload_n hx hb dX1_addDigits_10 rfl (lv_at hl 2 rfl) ?_
        refine gf_X1_9 (v := .ref a_this_digits) hx hb hown ht hK hP 0 rfl rfl dX1_addDigits_11 ?_
        refine lv_iload_n hx hb dX1_addDigits_14 rfl (lv_at hl 0 rfl) ?_
        refine va_iald hx hb hK hP 1 0 rfl rfl (q_in hv c_2 (by decide)) dX1_addDigits_15 ?_
        refine lv_aload_n hx hb dX1_addDigits_16 rfl (lv_at hl 3 rfl) ?_
        refine gf_X1_9 (v := .ref a_p1_digits) hx hb hown ht hK hP 2 rfl rfl dX1_addDigits_17 ?_
        refine lv_iload_n hx hb dX1_addDigits_20 rfl (lv_at hl 0 rfl) ?_
        refine va_iald hx hb hK hP 3 1 rfl rfl (q_in hv c_2 (by decide)) dX1_addDigits_21 ?_
        refine lv_iadd hx hb dX1_addDigits_22 ?_
        refine lv_iload_n hx hb dX1_addDigits_23 rfl (lv_at hl 1 rfl) ?_
        refine lv_iadd hx hb dX1_addDigits_24 ?_
        refine lv_istore (lv' := [(4, .int (((r_this_digits_L4 x3.toNatClampNeg) + (r_p1_digits x3.toNatClampNeg)) + x2)), (3, .int x3), (2, .int x2), (0, .ref a_this), (1, .ref a_p1)]) hx hb dX1_addDigits_25 hl (by decide) rfl (fun ls hl => ?_)
        refine lv_iload hx hb dX1_addDigits_27 (lv_at hl 0 rfl) ?_
        refine lv_bipush (v := 9) hx hb dX1_addDigits_29 (by decide) ?_
        refine lv_icmp_le (tgt := 38) hx hb dX1_addDigits_31 (by decide) (fun c_3 => ?_) (fun c_3 => ?_)
        · skip
          rw [if_pos c_3] at hF
          refine lv_iconst (v := 0) hx hb dX1_addDigits_38 (by decide) ?_
          refine lv_istore_n (lv' := [(2, .int 0), (4, .int (((r_this_digits_L4 x3.toNatClampNeg) + (r_p1_digits x3.toNatClampNeg)) + x2)), (3, .int x3), (0, .ref a_this), (1, .ref a_p1)]) hx hb dX1_addDigits_39 rfl hl (by decide) rfl (fun ls hl => ?_)
          refine lv_aload_n hx hb dX1_addDigits_40 rfl (lv_at hl 3 rfl) ?_
          refine gf_X1_9 (v := .ref a_this_digits) hx hb hown ht hK hP 0 rfl rfl dX1_addDigits_41 ?_
          refine lv_iload_n hx hb dX1_addDigits_44 rfl (lv_at hl 2 rfl) ?_
          refine lv_iload hx hb dX1_addDigits_45 (lv_at hl 1 rfl) ?_
          refine lv_bipush (v := 10) hx hb dX1_addDigits_47 (by decide) ?_
          refine lv_iload_n hx hb dX1_addDigits_49 rfl (lv_at hl 0 rfl) ?_
          refine lv_imul hx hb dX1_addDigits_50 ?_
          refine lv_isub hx hb dX1_addDigits_51 ?_
          refine va_iast hx hb hK hP hD hS 1 0 rfl rfl (q_in hv c_2 (by decide)) dX1_addDigits_52 (fun H locs hP hD hS => ?_)
          have hP : va_P D vwCl [(a_this, oX1 a_this_digits o_this), (a_this_digits, .inl (k_this_digits, 32, .inl (upd r_this_digits_L4 x3.toNatClampNeg ((((r_this_digits_L4 x3.toNatClampNeg) + (r_p1_digits x3.toNatClampNeg)) + x2) - ((10 : Int32) * (0 : Int32)))))), (a_p1, oX1 a_p1_digits o_p1), (a_p1_digits, .inl (k_p1_digits, 32, .inl r_p1_digits))] H := hP
          have hD : va_D A [(a_this, oX1 a_this_digits o_this), (a_this_digits, .inl (k_this_digits, 32, .inl (upd r_this_digits_L4 x3.toNatClampNeg ((((r_this_digits_L4 x3.toNatClampNeg) + (r_p1_digits x3.toNatClampNeg)) + x2) - ((10 : Int32) * (0 : Int32)))))), (a_p1, oX1 a_p1_digits o_p1), (a_p1_digits, .inl (k_p1_digits, 32, .inl r_p1_digits))] := hD
          refine lv_iinc (v := (x3 + (1 : Int32))) (lv' := [(3, .int (x3 + (1 : Int32))), (2, .int 0), (4, .int (((r_this_digits_L4 x3.toNatClampNeg) + (r_p1_digits x3.toNatClampNeg)) + x2)), (0, .ref a_this), (1, .ref a_p1)]) hx hb dX1_addDigits_53 hl (k := 2) rfl rfl (by decide) rfl (fun ls hl => ?_)
          refine lv_goto (tgt := 4) hx hb dX1_addDigits_56 (by decide) ?_
          exact ih (upd r_this_digits_L4 x3.toNatClampNeg ((((r_this_digits_L4 x3.toNatClampNeg) + (r_p1_digits x3.toNatClampNeg)) + x2) - ((10 : Int32) * (0 : Int32)))) (x3 + (1 : Int32)) 0 _ _ _ (by first | exact q_up hm hv | exact q_up hm c_2 | exact q_up hm c_3) (by first | exact q_upnn hv hv | exact q_upnn hv c_2 | exact q_upnn hv c_3) hP hD hS (lv_sub hl [0, 1, 3, 4] rfl) hF
        · skip
          rw [if_neg c_3] at hF
          refine lv_iconst (v := 1) hx hb dX1_addDigits_34 (by decide) ?_
          refine lv_goto (tgt := 39) hx hb dX1_addDigits_35 (by decide) ?_
          refine lv_istore_n (lv' := [(2, .int 1), (4, .int (((r_this_digits_L4 x3.toNatClampNeg) + (r_p1_digits x3.toNatClampNeg)) + x2)), (3, .int x3), (0, .ref a_this), (1, .ref a_p1)]) hx hb dX1_addDigits_39 rfl hl (by decide) rfl (fun ls hl => ?_)
          refine lv_aload_n hx hb dX1_addDigits_40 rfl (lv_at hl 3 rfl) ?_
          refine gf_X1_9 (v := .ref a_this_digits) hx hb hown ht hK hP 0 rfl rfl dX1_addDigits_41 ?_
          refine lv_iload_n hx hb dX1_addDigits_44 rfl (lv_at hl 2 rfl) ?_
          refine lv_iload hx hb dX1_addDigits_45 (lv_at hl 1 rfl) ?_
          refine lv_bipush (v := 10) hx hb dX1_addDigits_47 (by decide) ?_
          refine lv_iload_n hx hb dX1_addDigits_49 rfl (lv_at hl 0 rfl) ?_
          refine lv_imul hx hb dX1_addDigits_50 ?_
          refine lv_isub hx hb dX1_addDigits_51 ?_
          refine va_iast hx hb hK hP hD hS 1 0 rfl rfl (q_in hv c_2 (by decide)) dX1_addDigits_52 (fun H locs hP hD hS => ?_)
          have hP : va_P D vwCl [(a_this, oX1 a_this_digits o_this), (a_this_digits, .inl (k_this_digits, 32, .inl (upd r_this_digits_L4 x3.toNatClampNeg ((((r_this_digits_L4 x3.toNatClampNeg) + (r_p1_digits x3.toNatClampNeg)) + x2) - ((10 : Int32) * (1 : Int32)))))), (a_p1, oX1 a_p1_digits o_p1), (a_p1_digits, .inl (k_p1_digits, 32, .inl r_p1_digits))] H := hP
          have hD : va_D A [(a_this, oX1 a_this_digits o_this), (a_this_digits, .inl (k_this_digits, 32, .inl (upd r_this_digits_L4 x3.toNatClampNeg ((((r_this_digits_L4 x3.toNatClampNeg) + (r_p1_digits x3.toNatClampNeg)) + x2) - ((10 : Int32) * (1 : Int32)))))), (a_p1, oX1 a_p1_digits o_p1), (a_p1_digits, .inl (k_p1_digits, 32, .inl r_p1_digits))] := hD
          refine lv_iinc (v := (x3 + (1 : Int32))) (lv' := [(3, .int (x3 + (1 : Int32))), (2, .int 1), (4, .int (((r_this_digits_L4 x3.toNatClampNeg) + (r_p1_digits x3.toNatClampNeg)) + x2)), (0, .ref a_this), (1, .ref a_p1)]) hx hb dX1_addDigits_53 hl (k := 2) rfl rfl (by decide) rfl (fun ls hl => ?_)
          refine lv_goto (tgt := 4) hx hb dX1_addDigits_56 (by decide) ?_
          exact ih (upd r_this_digits_L4 x3.toNatClampNeg ((((r_this_digits_L4 x3.toNatClampNeg) + (r_p1_digits x3.toNatClampNeg)) + x2) - ((10 : Int32) * (1 : Int32)))) (x3 + (1 : Int32)) 1 _ _ _ (by first | exact q_up hm hv | exact q_up hm c_2 | exact q_up hm c_3) (by first | exact q_upnn hv hv | exact q_upnn hv c_2 | exact q_upnn hv c_3) hP hD hS (lv_sub hl [0, 1, 3, 4] rfl) hF
  exact L4 (((32 : Int32).toInt - (0 : Int32).toInt).toNat + 1) r_this_digits 0 0 _ _ _ (Nat.lt_succ_self _) (by decide) hP hD hS (lv_sub hl [0, 1, 2, 3] rfl) hF
theorem cv_X1_addDigits : qV yX1_addDigits cX1_addDigits 5 none 1 := ⟨kc_X1_addDigits, kt_X1_addDigits, ks_X1_addDigits, kn_X1, by decide, by decide +kernel⟩
def f_X1_takeDifferenceS_L5 (r_p1 : Nat → Int32) : Nat → (Nat → Int32) → Int32 → Int32 → Nat → Int32
  | 0, r_this_digits_L5, x4, x3 => r_this_digits_L5
  | fuel + 1, r_this_digits_L5, x4, x3 => (if (32 : Int32) ≤ x4 then r_this_digits_L5 else (if 0 ≤ (((r_p1 x4.toNatClampNeg) - (r_this_digits_L5 x4.toNatClampNeg)) - x3) then f_X1_takeDifferenceS_L5 r_p1 fuel (upd r_this_digits_L5 x4.toNatClampNeg ((((r_p1 x4.toNatClampNeg) - (r_this_digits_L5 x4.toNatClampNeg)) - x3) + ((10 : Int32) * (0 : Int32)))) (x4 + (1 : Int32)) 0 else f_X1_takeDifferenceS_L5 r_p1 fuel (upd r_this_digits_L5 x4.toNatClampNeg ((((r_p1 x4.toNatClampNeg) - (r_this_digits_L5 x4.toNatClampNeg)) - x3) + ((10 : Int32) * (1 : Int32)))) (x4 + (1 : Int32)) 1))
def f_X1_takeDifferenceS (r_this_digits : Nat → Int32) (r_p1 : Nat → Int32) : Nat → Int32 := f_X1_takeDifferenceS_L5 r_p1 (((32 : Int32).toInt - (0 : Int32).toInt).toNat + 1) r_this_digits 0 0
set_option linter.all false in
set_option maxHeartbeats 4000000 in
set_option maxRecDepth 100000 in
theorem c_X1_takeDifferenceS (l : Launch) (D : va_G) (a_this a_this_digits a_p1 : Nat) (k_this_digits k_p1 : ClassId) (o_this : Bool) (r_this_digits : Nat → Int32) (r_p1 : Nat → Int32) : CtV l yX1_takeDifference cX1_takeDifference 6 none { frames := 0, cells := 0, slots := 0, locals := 0 } D [.ref a_this, .ref a_p1, .ref a_this_digits] [(a_this, oX1 a_this_digits o_this), (a_this_digits, .inl (k_this_digits, 32, .inl r_this_digits)), (a_p1, .inl (k_p1, 32, .inl r_p1))] [(k_this_digits, .int), (k_p1, .int)] (fun (u : Nat → Int32) => f_X1_takeDifferenceS r_this_digits r_p1 = u) (fun u => [(a_this, oX1 a_this_digits o_this), (a_this_digits, .inl (k_this_digits, 32, .inl u)), (a_p1, .inl (k_p1, 32, .inl r_p1))]) := by
  refine CtV.of (by decide) (Nat.le_of_ble_eq_true rfl) ?_
  intro p e s m below meth c A ls Q hE hP hD hS hl hQ
  obtain ⟨hx, hb, hml, hown, ht, hN, hK, hA⟩ := hE
  have hown : s.vm.findClass RX1 = some m.cls := hown
  have hl : lv_has ls 6 [(0, .ref a_this), (1, .ref a_p1), (2, .ref a_this_digits)] := hl
  obtain ⟨F, hF⟩ : ∃ F, f_X1_takeDifferenceS r_this_digits r_p1 = F := ⟨_, rfl⟩
  rw [hF] at hQ
  unfold f_X1_takeDifferenceS at hF
  refine lv_iconst (v := 0) hx hb dX1_takeDifference_0 (by decide) ?_
  refine lv_istore_n (lv' := [(3, .int 0), (0, .ref a_this), (1, .ref a_p1), (2, .ref a_this_digits)]) hx hb dX1_takeDifference_1 rfl hl (by decide) rfl (fun ls hl => ?_)
  refine lv_iconst (v := 0) hx hb dX1_takeDifference_2 (by decide) ?_
  refine lv_istore (lv' := [(4, .int 0), (3, .int 0), (0, .ref a_this), (1, .ref a_p1), (2, .ref a_this_digits)]) hx hb dX1_takeDifference_3 hl (by decide) rfl (fun ls hl => ?_)
  have L5 : ∀ (fuel : Nat) (r_this_digits_L5 : Nat → Int32) (x4 : Int32) (x3 : Int32) (H : Heap) (locs : List Loc) (ls : Array Slot), ((32 : Int32).toInt - (x4 : Int32).toInt).toNat < fuel → ¬ x4 < 0 → va_P D vwCl [(a_this, oX1 a_this_digits o_this), (a_this_digits, .inl (k_this_digits, 32, .inl r_this_digits_L5)), (a_p1, .inl (k_p1, 32, .inl r_p1))] H → va_D A [(a_this, oX1 a_this_digits o_this), (a_this_digits, .inl (k_this_digits, 32, .inl r_this_digits_L5)), (a_p1, .inl (k_p1, 32, .inl r_p1))] → va_S A s.heap H locs → lv_has ls 6 [(4, .int x4), (3, .int x3), (0, .ref a_this), (1, .ref a_p1), (2, .ref a_this_digits)] → f_X1_takeDifferenceS_L5 r_p1 fuel r_this_digits_L5 x4 x3 = F → W p l e ({ frames := 0, cells := 0, slots := 0, locals := 0 } : Room) s m ([.ref a_this, .ref a_p1, .ref a_this_digits] : List Value).toArray below meth c H locs 0 0 Q (F0 m 5 ls []) := by
    intro fuel
    induction fuel with
    | zero => intro r_this_digits_L5 x4 x3 H locs ls hm; exact absurd hm (Nat.not_lt_zero _)
    | succ fuel ih =>
      intro r_this_digits_L5 x4 x3 H locs ls hm hv hP hD hS hl hF
      rw [f_X1_takeDifferenceS_L5] at hF
      skip
      refine lv_iload hx hb dX1_takeDifference_5 (lv_at hl 0 rfl) ?_
      refine lv_bipush (v := 32) hx hb dX1_takeDifference_7 (by decide) ?_
      refine lv_icmp_ge (tgt := 56) hx hb dX1_takeDifference_9 (by decide) (fun c_2 => ?_) (fun c_2 => ?_)
      · skip
        rw [if_pos c_2] at hF
        exact hQ r_this_digits_L5 _ _ _ _ dX1_takeDifference_56 hF.symm hP hD hS
      · skip
        rw [if_neg c_2] at hF
        refine lv_aload_n hx hb dX1_takeDifference_12 rfl (lv_at hl 3 rfl) ?_
        refine lv_iload hx hb dX1_takeDifference_13 (lv_at hl 0 rfl) ?_
        refine va_iald hx hb hK hP 2 1 rfl rfl (q_in hv c_2 (by decide)) dX1_takeDifference_15 ?_
        refine lv_aload_n hx hb dX1_takeDifference_16 rfl (lv_at hl 4 rfl) ?_
        refine lv_iload hx hb dX1_takeDifference_17 (lv_at hl 0 rfl) ?_
        refine va_iald hx hb hK hP 1 0 rfl rfl (q_in hv c_2 (by decide)) dX1_takeDifference_19 ?_
        refine lv_isub hx hb dX1_takeDifference_20 ?_
        refine lv_iload_n hx hb dX1_takeDifference_21 rfl (lv_at hl 1 rfl) ?_
        refine lv_isub hx hb dX1_takeDifference_22 ?_
        refine lv_istore (lv' := [(5, .int (((r_p1 x4.toNatClampNeg) - (r_this_digits_L5 x4.toNatClampNeg)) - x3)), (4, .int x4), (3, .int x3), (0, .ref a_this), (1, .ref a_p1), (2, .ref a_this_digits)]) hx hb dX1_takeDifference_23 hl (by decide) rfl (fun ls hl => ?_)
        refine lv_iload hx hb dX1_takeDifference_25 (lv_at hl 0 rfl) ?_
        refine lv_if_ge (tgt := 34) hx hb dX1_takeDifference_27 (by decide) (fun c_3 => ?_) (fun c_3 => ?_)
        · skip
          rw [if_pos c_3] at hF
          refine lv_iconst (v := 0) hx hb dX1_takeDifference_34 (by decide) ?_
          refine lv_istore_n (lv' := [(3, .int 0), (5, .int (((r_p1 x4.toNatClampNeg) - (r_this_digits_L5 x4.toNatClampNeg)) - x3)), (4, .int x4), (0, .ref a_this), (1, .ref a_p1), (2, .ref a_this_digits)]) hx hb dX1_takeDifference_35 rfl hl (by decide) rfl (fun ls hl => ?_)
          refine lv_aload_n hx hb dX1_takeDifference_36 rfl (lv_at hl 3 rfl) ?_
          refine gf_X1_9 (v := .ref a_this_digits) hx hb hown ht hK hP 0 rfl rfl dX1_takeDifference_37 ?_
          refine lv_iload hx hb dX1_takeDifference_40 (lv_at hl 2 rfl) ?_
          refine lv_iload hx hb dX1_takeDifference_42 (lv_at hl 1 rfl) ?_
          refine lv_bipush (v := 10) hx hb dX1_takeDifference_44 (by decide) ?_
          refine lv_iload_n hx hb dX1_takeDifference_46 rfl (lv_at hl 0 rfl) ?_
          refine lv_imul hx hb dX1_takeDifference_47 ?_
          refine lv_iadd hx hb dX1_takeDifference_48 ?_
          refine va_iast hx hb hK hP hD hS 1 0 rfl rfl (q_in hv c_2 (by decide)) dX1_takeDifference_49 (fun H locs hP hD hS => ?_)
          have hP : va_P D vwCl [(a_this, oX1 a_this_digits o_this), (a_this_digits, .inl (k_this_digits, 32, .inl (upd r_this_digits_L5 x4.toNatClampNeg ((((r_p1 x4.toNatClampNeg) - (r_this_digits_L5 x4.toNatClampNeg)) - x3) + ((10 : Int32) * (0 : Int32)))))), (a_p1, .inl (k_p1, 32, .inl r_p1))] H := hP
          have hD : va_D A [(a_this, oX1 a_this_digits o_this), (a_this_digits, .inl (k_this_digits, 32, .inl (upd r_this_digits_L5 x4.toNatClampNeg ((((r_p1 x4.toNatClampNeg) - (r_this_digits_L5 x4.toNatClampNeg)) - x3) + ((10 : Int32) * (0 : Int32)))))), (a_p1, .inl (k_p1, 32, .inl r_p1))] := hD
          refine lv_iinc (v := (x4 + (1 : Int32))) (lv' := [(4, .int (x4 + (1 : Int32))), (3, .int 0), (5, .int (((r_p1 x4.toNatClampNeg) - (r_this_digits_L5 x4.toNatClampNeg)) - x3)), (0, .ref a_this), (1, .ref a_p1), (2, .ref a_this_digits)]) hx hb dX1_takeDifference_50 hl (k := 2) rfl rfl (by decide) rfl (fun ls hl => ?_)
          refine lv_goto (tgt := 5) hx hb dX1_takeDifference_53 (by decide) ?_
          exact ih (upd r_this_digits_L5 x4.toNatClampNeg ((((r_p1 x4.toNatClampNeg) - (r_this_digits_L5 x4.toNatClampNeg)) - x3) + ((10 : Int32) * (0 : Int32)))) (x4 + (1 : Int32)) 0 _ _ _ (by first | exact q_up hm hv | exact q_up hm c_2 | exact q_up hm c_3) (by first | exact q_upnn hv hv | exact q_upnn hv c_2 | exact q_upnn hv c_3) hP hD hS (lv_sub hl [0, 1, 3, 4, 5] rfl) hF
        · skip
          rw [if_neg c_3] at hF
          refine lv_iconst (v := 1) hx hb dX1_takeDifference_30 (by decide) ?_
          refine lv_goto (tgt := 35) hx hb dX1_takeDifference_31 (by decide) ?_
          refine lv_istore_n (lv' := [(3, .int 1), (5, .int (((r_p1 x4.toNatClampNeg) - (r_this_digits_L5 x4.toNatClampNeg)) - x3)), (4, .int x4), (0, .ref a_this), (1, .ref a_p1), (2, .ref a_this_digits)]) hx hb dX1_takeDifference_35 rfl hl (by decide) rfl (fun ls hl => ?_)
          refine lv_aload_n hx hb dX1_takeDifference_36 rfl (lv_at hl 3 rfl) ?_
          refine gf_X1_9 (v := .ref a_this_digits) hx hb hown ht hK hP 0 rfl rfl dX1_takeDifference_37 ?_
          refine lv_iload hx hb dX1_takeDifference_40 (lv_at hl 2 rfl) ?_
          refine lv_iload hx hb dX1_takeDifference_42 (lv_at hl 1 rfl) ?_
          refine lv_bipush (v := 10) hx hb dX1_takeDifference_44 (by decide) ?_
          refine lv_iload_n hx hb dX1_takeDifference_46 rfl (lv_at hl 0 rfl) ?_
          refine lv_imul hx hb dX1_takeDifference_47 ?_
          refine lv_iadd hx hb dX1_takeDifference_48 ?_
          refine va_iast hx hb hK hP hD hS 1 0 rfl rfl (q_in hv c_2 (by decide)) dX1_takeDifference_49 (fun H locs hP hD hS => ?_)
          have hP : va_P D vwCl [(a_this, oX1 a_this_digits o_this), (a_this_digits, .inl (k_this_digits, 32, .inl (upd r_this_digits_L5 x4.toNatClampNeg ((((r_p1 x4.toNatClampNeg) - (r_this_digits_L5 x4.toNatClampNeg)) - x3) + ((10 : Int32) * (1 : Int32)))))), (a_p1, .inl (k_p1, 32, .inl r_p1))] H := hP
          have hD : va_D A [(a_this, oX1 a_this_digits o_this), (a_this_digits, .inl (k_this_digits, 32, .inl (upd r_this_digits_L5 x4.toNatClampNeg ((((r_p1 x4.toNatClampNeg) - (r_this_digits_L5 x4.toNatClampNeg)) - x3) + ((10 : Int32) * (1 : Int32)))))), (a_p1, .inl (k_p1, 32, .inl r_p1))] := hD
          refine lv_iinc (v := (x4 + (1 : Int32))) (lv' := [(4, .int (x4 + (1 : Int32))), (3, .int 1), (5, .int (((r_p1 x4.toNatClampNeg) - (r_this_digits_L5 x4.toNatClampNeg)) - x3)), (0, .ref a_this), (1, .ref a_p1), (2, .ref a_this_digits)]) hx hb dX1_takeDifference_50 hl (k := 2) rfl rfl (by decide) rfl (fun ls hl => ?_)
          refine lv_goto (tgt := 5) hx hb dX1_takeDifference_53 (by decide) ?_
          exact ih (upd r_this_digits_L5 x4.toNatClampNeg ((((r_p1 x4.toNatClampNeg) - (r_this_digits_L5 x4.toNatClampNeg)) - x3) + ((10 : Int32) * (1 : Int32)))) (x4 + (1 : Int32)) 1 _ _ _ (by first | exact q_up hm hv | exact q_up hm c_2 | exact q_up hm c_3) (by first | exact q_upnn hv hv | exact q_upnn hv c_2 | exact q_upnn hv c_3) hP hD hS (lv_sub hl [0, 1, 3, 4, 5] rfl) hF
  exact L5 (((32 : Int32).toInt - (0 : Int32).toInt).toNat + 1) r_this_digits 0 0 _ _ _ (Nat.lt_succ_self _) (by decide) hP hD hS (lv_sub hl [0, 1, 2, 3, 4] rfl) hF
theorem cv_X1_takeDifference : qV yX1_takeDifference cX1_takeDifference 6 none 2 := ⟨kc_X1_takeDifference, kt_X1_takeDifference, ks_X1_takeDifference, kn_X1, by decide, by decide +kernel⟩
def f_X1_takeDifferenceL_L5 (r_p2 : Nat → Int32) : Nat → (Nat → Int32) → Int32 → Int32 → Nat → Int32
  | 0, r_this_digits_L5, x4, x3 => r_this_digits_L5
  | fuel + 1, r_this_digits_L5, x4, x3 => (if (32 : Int32) ≤ x4 then r_this_digits_L5 else (if 0 ≤ (((r_this_digits_L5 x4.toNatClampNeg) - (r_p2 x4.toNatClampNeg)) - x3) then f_X1_takeDifferenceL_L5 r_p2 fuel (upd r_this_digits_L5 x4.toNatClampNeg ((((r_this_digits_L5 x4.toNatClampNeg) - (r_p2 x4.toNatClampNeg)) - x3) + ((10 : Int32) * (0 : Int32)))) (x4 + (1 : Int32)) 0 else f_X1_takeDifferenceL_L5 r_p2 fuel (upd r_this_digits_L5 x4.toNatClampNeg ((((r_this_digits_L5 x4.toNatClampNeg) - (r_p2 x4.toNatClampNeg)) - x3) + ((10 : Int32) * (1 : Int32)))) (x4 + (1 : Int32)) 1))
def f_X1_takeDifferenceL (r_this_digits : Nat → Int32) (r_p2 : Nat → Int32) : Nat → Int32 := f_X1_takeDifferenceL_L5 r_p2 (((32 : Int32).toInt - (0 : Int32).toInt).toNat + 1) r_this_digits 0 0
set_option linter.all false in
set_option maxHeartbeats 4000000 in
set_option maxRecDepth 100000 in
theorem c_X1_takeDifferenceL (l : Launch) (D : va_G) (a_this a_this_digits a_p2 : Nat) (k_this_digits k_p2 : ClassId) (o_this : Bool) (r_this_digits : Nat → Int32) (r_p2 : Nat → Int32) : CtV l yX1_takeDifference cX1_takeDifference 6 none { frames := 0, cells := 0, slots := 0, locals := 0 } D [.ref a_this, .ref a_this_digits, .ref a_p2] [(a_this, oX1 a_this_digits o_this), (a_this_digits, .inl (k_this_digits, 32, .inl r_this_digits)), (a_p2, .inl (k_p2, 32, .inl r_p2))] [(k_this_digits, .int), (k_p2, .int)] (fun (u : Nat → Int32) => f_X1_takeDifferenceL r_this_digits r_p2 = u) (fun u => [(a_this, oX1 a_this_digits o_this), (a_this_digits, .inl (k_this_digits, 32, .inl u)), (a_p2, .inl (k_p2, 32, .inl r_p2))]) := by
  refine CtV.of (by decide) (Nat.le_of_ble_eq_true rfl) ?_
  intro p e s m below meth c A ls Q hE hP hD hS hl hQ
  obtain ⟨hx, hb, hml, hown, ht, hN, hK, hA⟩ := hE
  have hown : s.vm.findClass RX1 = some m.cls := hown
  have hl : lv_has ls 6 [(0, .ref a_this), (1, .ref a_this_digits), (2, .ref a_p2)] := hl
  obtain ⟨F, hF⟩ : ∃ F, f_X1_takeDifferenceL r_this_digits r_p2 = F := ⟨_, rfl⟩
  rw [hF] at hQ
  unfold f_X1_takeDifferenceL at hF
  refine lv_iconst (v := 0) hx hb dX1_takeDifference_0 (by decide) ?_
  refine lv_istore_n (lv' := [(3, .int 0), (0, .ref a_this), (1, .ref a_this_digits), (2, .ref a_p2)]) hx hb dX1_takeDifference_1 rfl hl (by decide) rfl (fun ls hl => ?_)
  refine lv_iconst (v := 0) hx hb dX1_takeDifference_2 (by decide) ?_
  refine lv_istore (lv' := [(4, .int 0), (3, .int 0), (0, .ref a_this), (1, .ref a_this_digits), (2, .ref a_p2)]) hx hb dX1_takeDifference_3 hl (by decide) rfl (fun ls hl => ?_)
  have L5 : ∀ (fuel : Nat) (r_this_digits_L5 : Nat → Int32) (x4 : Int32) (x3 : Int32) (H : Heap) (locs : List Loc) (ls : Array Slot), ((32 : Int32).toInt - (x4 : Int32).toInt).toNat < fuel → ¬ x4 < 0 → va_P D vwCl [(a_this, oX1 a_this_digits o_this), (a_this_digits, .inl (k_this_digits, 32, .inl r_this_digits_L5)), (a_p2, .inl (k_p2, 32, .inl r_p2))] H → va_D A [(a_this, oX1 a_this_digits o_this), (a_this_digits, .inl (k_this_digits, 32, .inl r_this_digits_L5)), (a_p2, .inl (k_p2, 32, .inl r_p2))] → va_S A s.heap H locs → lv_has ls 6 [(4, .int x4), (3, .int x3), (0, .ref a_this), (1, .ref a_this_digits), (2, .ref a_p2)] → f_X1_takeDifferenceL_L5 r_p2 fuel r_this_digits_L5 x4 x3 = F → W p l e ({ frames := 0, cells := 0, slots := 0, locals := 0 } : Room) s m ([.ref a_this, .ref a_this_digits, .ref a_p2] : List Value).toArray below meth c H locs 0 0 Q (F0 m 5 ls []) := by
    intro fuel
    induction fuel with
    | zero => intro r_this_digits_L5 x4 x3 H locs ls hm; exact absurd hm (Nat.not_lt_zero _)
    | succ fuel ih =>
      intro r_this_digits_L5 x4 x3 H locs ls hm hv hP hD hS hl hF
      rw [f_X1_takeDifferenceL_L5] at hF
      skip
      refine lv_iload hx hb dX1_takeDifference_5 (lv_at hl 0 rfl) ?_
      refine lv_bipush (v := 32) hx hb dX1_takeDifference_7 (by decide) ?_
      refine lv_icmp_ge (tgt := 56) hx hb dX1_takeDifference_9 (by decide) (fun c_2 => ?_) (fun c_2 => ?_)
      · skip
        rw [if_pos c_2] at hF
        exact hQ r_this_digits_L5 _ _ _ _ dX1_takeDifference_56 hF.symm hP hD hS
      · skip
        rw [if_neg c_2] at hF
        refine lv_aload_n hx hb dX1_takeDifference_12 rfl (lv_at hl 3 rfl) ?_
        refine lv_iload hx hb dX1_takeDifference_13 (lv_at hl 0 rfl) ?_
        refine va_iald hx hb hK hP 1 0 rfl rfl (q_in hv c_2 (by decide)) dX1_takeDifference_15 ?_
        refine lv_aload_n hx hb dX1_takeDifference_16 rfl (lv_at hl 4 rfl) ?_
        refine lv_iload hx hb dX1_takeDifference_17 (lv_at hl 0 rfl) ?_
        refine va_iald hx hb hK hP 2 1 rfl rfl (q_in hv c_2 (by decide)) dX1_takeDifference_19 ?_
        refine lv_isub hx hb dX1_takeDifference_20 ?_
        refine lv_iload_n hx hb dX1_takeDifference_21 rfl (lv_at hl 1 rfl) ?_
        refine lv_isub hx hb dX1_takeDifference_22 ?_
        refine lv_istore (lv' := [(5, .int (((r_this_digits_L5 x4.toNatClampNeg) - (r_p2 x4.toNatClampNeg)) - x3)), (4, .int x4), (3, .int x3), (0, .ref a_this), (1, .ref a_this_digits), (2, .ref a_p2)]) hx hb dX1_takeDifference_23 hl (by decide) rfl (fun ls hl => ?_)
        refine lv_iload hx hb dX1_takeDifference_25 (lv_at hl 0 rfl) ?_
        refine lv_if_ge (tgt := 34) hx hb dX1_takeDifference_27 (by decide) (fun c_3 => ?_) (fun c_3 => ?_)
        · skip
          rw [if_pos c_3] at hF
          refine lv_iconst (v := 0) hx hb dX1_takeDifference_34 (by decide) ?_
          refine lv_istore_n (lv' := [(3, .int 0), (5, .int (((r_this_digits_L5 x4.toNatClampNeg) - (r_p2 x4.toNatClampNeg)) - x3)), (4, .int x4), (0, .ref a_this), (1, .ref a_this_digits), (2, .ref a_p2)]) hx hb dX1_takeDifference_35 rfl hl (by decide) rfl (fun ls hl => ?_)
          refine lv_aload_n hx hb dX1_takeDifference_36 rfl (lv_at hl 3 rfl) ?_
          refine gf_X1_9 (v := .ref a_this_digits) hx hb hown ht hK hP 0 rfl rfl dX1_takeDifference_37 ?_
          refine lv_iload hx hb dX1_takeDifference_40 (lv_at hl 2 rfl) ?_
          refine lv_iload hx hb dX1_takeDifference_42 (lv_at hl 1 rfl) ?_
          refine lv_bipush (v := 10) hx hb dX1_takeDifference_44 (by decide) ?_
          refine lv_iload_n hx hb dX1_takeDifference_46 rfl (lv_at hl 0 rfl) ?_
          refine lv_imul hx hb dX1_takeDifference_47 ?_
          refine lv_iadd hx hb dX1_takeDifference_48 ?_
          refine va_iast hx hb hK hP hD hS 1 0 rfl rfl (q_in hv c_2 (by decide)) dX1_takeDifference_49 (fun H locs hP hD hS => ?_)
          have hP : va_P D vwCl [(a_this, oX1 a_this_digits o_this), (a_this_digits, .inl (k_this_digits, 32, .inl (upd r_this_digits_L5 x4.toNatClampNeg ((((r_this_digits_L5 x4.toNatClampNeg) - (r_p2 x4.toNatClampNeg)) - x3) + ((10 : Int32) * (0 : Int32)))))), (a_p2, .inl (k_p2, 32, .inl r_p2))] H := hP
          have hD : va_D A [(a_this, oX1 a_this_digits o_this), (a_this_digits, .inl (k_this_digits, 32, .inl (upd r_this_digits_L5 x4.toNatClampNeg ((((r_this_digits_L5 x4.toNatClampNeg) - (r_p2 x4.toNatClampNeg)) - x3) + ((10 : Int32) * (0 : Int32)))))), (a_p2, .inl (k_p2, 32, .inl r_p2))] := hD
          refine lv_iinc (v := (x4 + (1 : Int32))) (lv' := [(4, .int (x4 + (1 : Int32))), (3, .int 0), (5, .int (((r_this_digits_L5 x4.toNatClampNeg) - (r_p2 x4.toNatClampNeg)) - x3)), (0, .ref a_this), (1, .ref a_this_digits), (2, .ref a_p2)]) hx hb dX1_takeDifference_50 hl (k := 2) rfl rfl (by decide) rfl (fun ls hl => ?_)
          refine lv_goto (tgt := 5) hx hb dX1_takeDifference_53 (by decide) ?_
          exact ih (upd r_this_digits_L5 x4.toNatClampNeg ((((r_this_digits_L5 x4.toNatClampNeg) - (r_p2 x4.toNatClampNeg)) - x3) + ((10 : Int32) * (0 : Int32)))) (x4 + (1 : Int32)) 0 _ _ _ (by first | exact q_up hm hv | exact q_up hm c_2 | exact q_up hm c_3) (by first | exact q_upnn hv hv | exact q_upnn hv c_2 | exact q_upnn hv c_3) hP hD hS (lv_sub hl [0, 1, 3, 4, 5] rfl) hF
        · skip
          rw [if_neg c_3] at hF
          refine lv_iconst (v := 1) hx hb dX1_takeDifference_30 (by decide) ?_
          refine lv_goto (tgt := 35) hx hb dX1_takeDifference_31 (by decide) ?_
          refine lv_istore_n (lv' := [(3, .int 1), (5, .int (((r_this_digits_L5 x4.toNatClampNeg) - (r_p2 x4.toNatClampNeg)) - x3)), (4, .int x4), (0, .ref a_this), (1, .ref a_this_digits), (2, .ref a_p2)]) hx hb dX1_takeDifference_35 rfl hl (by decide) rfl (fun ls hl => ?_)
          refine lv_aload_n hx hb dX1_takeDifference_36 rfl (lv_at hl 3 rfl) ?_
          refine gf_X1_9 (v := .ref a_this_digits) hx hb hown ht hK hP 0 rfl rfl dX1_takeDifference_37 ?_
          refine lv_iload hx hb dX1_takeDifference_40 (lv_at hl 2 rfl) ?_
          refine lv_iload hx hb dX1_takeDifference_42 (lv_at hl 1 rfl) ?_
          refine lv_bipush (v := 10) hx hb dX1_takeDifference_44 (by decide) ?_
          refine lv_iload_n hx hb dX1_takeDifference_46 rfl (lv_at hl 0 rfl) ?_
          refine lv_imul hx hb dX1_takeDifference_47 ?_
          refine lv_iadd hx hb dX1_takeDifference_48 ?_
          refine va_iast hx hb hK hP hD hS 1 0 rfl rfl (q_in hv c_2 (by decide)) dX1_takeDifference_49 (fun H locs hP hD hS => ?_)
          have hP : va_P D vwCl [(a_this, oX1 a_this_digits o_this), (a_this_digits, .inl (k_this_digits, 32, .inl (upd r_this_digits_L5 x4.toNatClampNeg ((((r_this_digits_L5 x4.toNatClampNeg) - (r_p2 x4.toNatClampNeg)) - x3) + ((10 : Int32) * (1 : Int32)))))), (a_p2, .inl (k_p2, 32, .inl r_p2))] H := hP
          have hD : va_D A [(a_this, oX1 a_this_digits o_this), (a_this_digits, .inl (k_this_digits, 32, .inl (upd r_this_digits_L5 x4.toNatClampNeg ((((r_this_digits_L5 x4.toNatClampNeg) - (r_p2 x4.toNatClampNeg)) - x3) + ((10 : Int32) * (1 : Int32)))))), (a_p2, .inl (k_p2, 32, .inl r_p2))] := hD
          refine lv_iinc (v := (x4 + (1 : Int32))) (lv' := [(4, .int (x4 + (1 : Int32))), (3, .int 1), (5, .int (((r_this_digits_L5 x4.toNatClampNeg) - (r_p2 x4.toNatClampNeg)) - x3)), (0, .ref a_this), (1, .ref a_this_digits), (2, .ref a_p2)]) hx hb dX1_takeDifference_50 hl (k := 2) rfl rfl (by decide) rfl (fun ls hl => ?_)
          refine lv_goto (tgt := 5) hx hb dX1_takeDifference_53 (by decide) ?_
          exact ih (upd r_this_digits_L5 x4.toNatClampNeg ((((r_this_digits_L5 x4.toNatClampNeg) - (r_p2 x4.toNatClampNeg)) - x3) + ((10 : Int32) * (1 : Int32)))) (x4 + (1 : Int32)) 1 _ _ _ (by first | exact q_up hm hv | exact q_up hm c_2 | exact q_up hm c_3) (by first | exact q_upnn hv hv | exact q_upnn hv c_2 | exact q_upnn hv c_3) hP hD hS (lv_sub hl [0, 1, 3, 4, 5] rfl) hF
  exact L5 (((32 : Int32).toInt - (0 : Int32).toInt).toNat + 1) r_this_digits 0 0 _ _ _ (Nat.lt_succ_self _) (by decide) hP hD hS (lv_sub hl [0, 1, 2, 3, 4] rfl) hF
def f_X1_orderOfDigits_L3 (r_this_digits : Nat → Int32) (r_p1_digits : Nat → Int32) : Nat → Int32 → Int32
  | 0, x2 => 0
  | fuel + 1, x2 => (if x2 < 0 then 0 else (if (r_this_digits x2.toNatClampNeg) = (r_p1_digits x2.toNatClampNeg) then f_X1_orderOfDigits_L3 r_this_digits r_p1_digits fuel (x2 + ((-1) : Int32)) else (if (r_p1_digits x2.toNatClampNeg) ≤ (r_this_digits x2.toNatClampNeg) then 2 else 1)))
def f_X1_orderOfDigits (r_this_digits : Nat → Int32) (r_p1_digits : Nat → Int32) : Int32 := f_X1_orderOfDigits_L3 r_this_digits r_p1_digits (((31 : Int32).toInt + 1).toNat + 1) 31
set_option linter.all false in
set_option maxHeartbeats 4000000 in
set_option maxRecDepth 100000 in
theorem c_X1_orderOfDigits (l : Launch) (D : va_G) (a_this a_this_digits a_p1 a_p1_digits : Nat) (k_this_digits k_p1_digits : ClassId) (o_this : Bool) (r_this_digits : Nat → Int32) (o_p1 : Bool) (r_p1_digits : Nat → Int32) : CtI l yX1_orderOfDigits cX1_orderOfDigits 3 (some .int) { frames := 0, cells := 0, slots := 0, locals := 0 } D [.ref a_this, .ref a_p1] [(a_this, oX1 a_this_digits o_this), (a_this_digits, .inl (k_this_digits, 32, .inl r_this_digits)), (a_p1, oX1 a_p1_digits o_p1), (a_p1_digits, .inl (k_p1_digits, 32, .inl r_p1_digits))] [(k_this_digits, .int), (k_p1_digits, .int)] (fun (r : Int32) (u : Int32) => f_X1_orderOfDigits r_this_digits r_p1_digits = u ∧ r = u) (fun u => [(a_this, oX1 a_this_digits o_this), (a_this_digits, .inl (k_this_digits, 32, .inl r_this_digits)), (a_p1, oX1 a_p1_digits o_p1), (a_p1_digits, .inl (k_p1_digits, 32, .inl r_p1_digits))]) := by
  refine CtI.of (by decide) (Nat.le_of_ble_eq_true rfl) ?_
  intro p e s m below meth c A ls Q hE hP hD hS hl hQ
  obtain ⟨hx, hb, hml, hown, ht, hN, hK, hA⟩ := hE
  have hown : s.vm.findClass RX1 = some m.cls := hown
  have hl : lv_has ls 3 [(0, .ref a_this), (1, .ref a_p1)] := hl
  obtain ⟨F, hF⟩ : ∃ F, f_X1_orderOfDigits r_this_digits r_p1_digits = F := ⟨_, rfl⟩
  rw [hF] at hQ
  unfold f_X1_orderOfDigits at hF
  refine lv_bipush (v := 31) hx hb dX1_orderOfDigits_0 (by decide) ?_
  refine lv_istore_n (lv' := [(2, .int 31), (0, .ref a_this), (1, .ref a_p1)]) hx hb dX1_orderOfDigits_2 rfl hl (by decide) rfl (fun ls hl => ?_)
  have L3 : ∀ (fuel : Nat) (x2 : Int32) (H : Heap) (locs : List Loc) (ls : Array Slot), ((x2 : Int32).toInt + 1).toNat < fuel → ¬ 32 ≤ x2 → va_P D vwCl [(a_this, oX1 a_this_digits o_this), (a_this_digits, .inl (k_this_digits, 32, .inl r_this_digits)), (a_p1, oX1 a_p1_digits o_p1), (a_p1_digits, .inl (k_p1_digits, 32, .inl r_p1_digits))] H → va_D A [(a_this, oX1 a_this_digits o_this), (a_this_digits, .inl (k_this_digits, 32, .inl r_this_digits)), (a_p1, oX1 a_p1_digits o_p1), (a_p1_digits, .inl (k_p1_digits, 32, .inl r_p1_digits))] → va_S A s.heap H locs → lv_has ls 3 [(2, .int x2), (0, .ref a_this), (1, .ref a_p1)] → f_X1_orderOfDigits_L3 r_this_digits r_p1_digits fuel x2 = F → W p l e ({ frames := 0, cells := 0, slots := 0, locals := 0 } : Room) s m ([.ref a_this, .ref a_p1] : List Value).toArray below meth c H locs 0 0 Q (F0 m 3 ls []) := by
    intro fuel
    induction fuel with
    | zero => intro x2 H locs ls hm; exact absurd hm (Nat.not_lt_zero _)
    | succ fuel ih =>
      intro x2 H locs ls hm hv hP hD hS hl hF
      rw [f_X1_orderOfDigits_L3] at hF
      skip
      refine lv_iload_n hx hb dX1_orderOfDigits_3 rfl (lv_at hl 0 rfl) ?_
      refine lv_if_lt (tgt := 49) hx hb dX1_orderOfDigits_4 (by decide) (fun c_2 => ?_) (fun c_2 => ?_)
      · skip
        rw [if_pos c_2] at hF
        refine lv_iconst (v := 0) hx hb dX1_orderOfDigits_49 (by decide) ?_
        exact hQ 0 0 _ _ _ _ dX1_orderOfDigits_50 ⟨hF.symm, rfl⟩ hP hD hS
      · skip
        rw [if_neg c_2] at hF
        refine lv_aload_n hx hb dX1_orderOfDigits_7 rfl (lv_at hl 1 rfl) ?_
        refine gf_X1_9 (v := .ref a_this_digits) hx hb hown ht hK hP 0 rfl rfl dX1_orderOfDigits_8 ?_
        refine lv_iload_n hx hb dX1_orderOfDigits_11 rfl (lv_at hl 0 rfl) ?_
        refine va_iald hx hb hK hP 1 0 rfl rfl (q_in c_2 hv (by decide)) dX1_orderOfDigits_12 ?_
        refine lv_aload_n hx hb dX1_orderOfDigits_13 rfl (lv_at hl 2 rfl) ?_
        refine gf_X1_9 (v := .ref a_p1_digits) hx hb hown ht hK hP 2 rfl rfl dX1_orderOfDigits_14 ?_
        refine lv_iload_n hx hb dX1_orderOfDigits_17 rfl (lv_at hl 0 rfl) ?_
        refine va_iald hx hb hK hP 3 1 rfl rfl (q_in c_2 hv (by decide)) dX1_orderOfDigits_18 ?_
        refine lv_icmp_eq (tgt := 43) hx hb dX1_orderOfDigits_19 (by decide) (fun c_3 => ?_) (fun c_3 => ?_)
        · skip
          rw [if_pos c_3] at hF
          refine lv_iinc (v := (x2 + ((-1) : Int32))) (lv' := [(2, .int (x2 + ((-1) : Int32))), (0, .ref a_this), (1, .ref a_p1)]) hx hb dX1_orderOfDigits_43 hl (k := 0) rfl rfl (by decide) rfl (fun ls hl => ?_)
          refine lv_goto (tgt := 3) hx hb dX1_orderOfDigits_46 (by decide) ?_
          exact ih (x2 + ((-1) : Int32)) _ _ _ (by first | exact q_dn hm hv | exact q_dn hm c_2 | exact q_dn hm c_3) (by first | exact q_dn32 hv hv | exact q_dn32 hv c_2 | exact q_dn32 hv c_3) hP hD hS (lv_sub hl [0, 1, 2] rfl) hF
        · skip
          rw [if_neg c_3] at hF
          refine lv_aload_n hx hb dX1_orderOfDigits_22 rfl (lv_at hl 1 rfl) ?_
          refine gf_X1_9 (v := .ref a_this_digits) hx hb hown ht hK hP 0 rfl rfl dX1_orderOfDigits_23 ?_
          refine lv_iload_n hx hb dX1_orderOfDigits_26 rfl (lv_at hl 0 rfl) ?_
          refine va_iald hx hb hK hP 1 0 rfl rfl (q_in c_2 hv (by decide)) dX1_orderOfDigits_27 ?_
          refine lv_aload_n hx hb dX1_orderOfDigits_28 rfl (lv_at hl 2 rfl) ?_
          refine gf_X1_9 (v := .ref a_p1_digits) hx hb hown ht hK hP 2 rfl rfl dX1_orderOfDigits_29 ?_
          refine lv_iload_n hx hb dX1_orderOfDigits_32 rfl (lv_at hl 0 rfl) ?_
          refine va_iald hx hb hK hP 3 1 rfl rfl (q_in c_2 hv (by decide)) dX1_orderOfDigits_33 ?_
          refine lv_icmp_ge (tgt := 41) hx hb dX1_orderOfDigits_34 (by decide) (fun c_4 => ?_) (fun c_4 => ?_)
          · skip
            rw [if_pos c_4] at hF
            refine lv_iconst (v := 2) hx hb dX1_orderOfDigits_41 (by decide) ?_
            exact hQ 2 2 _ _ _ _ dX1_orderOfDigits_42 ⟨hF.symm, rfl⟩ hP hD hS
          · skip
            rw [if_neg c_4] at hF
            refine lv_iconst (v := 1) hx hb dX1_orderOfDigits_37 (by decide) ?_
            refine lv_goto (tgt := 42) hx hb dX1_orderOfDigits_38 (by decide) ?_
            exact hQ 1 1 _ _ _ _ dX1_orderOfDigits_42 ⟨hF.symm, rfl⟩ hP hD hS
  exact L3 (((31 : Int32).toInt + 1).toNat + 1) 31 _ _ _ (Nat.lt_succ_self _) (by decide) hP hD hS (lv_sub hl [0, 1, 2] rfl) hF
theorem cv_X1_orderOfDigits : qV yX1_orderOfDigits cX1_orderOfDigits 3 (some .int) 1 := ⟨kc_X1_orderOfDigits, kt_X1_orderOfDigits, ks_X1_orderOfDigits, kn_X1, by decide, by decide +kernel⟩
def f_X1_addSigned (o_this : Bool) (r_this_digits : Nat → Int32) (r_p1_digits : Nat → Int32) (p2 : Bool) : Bool × (Nat → Int32) := (if bI o_this = bI p2 then (q_let (f_X1_addDigits r_this_digits r_p1_digits) fun w_12 => (if o_this = true then (if (f_X1_isZero w_12 32) = true then (false, w_12) else (true, w_12)) else (false, w_12))) else (if (f_X1_orderOfDigits r_this_digits r_p1_digits) = (1 : Int32) then (q_let (f_X1_takeDifferenceS r_this_digits r_p1_digits) fun w_8 => (if p2 = true then (if (f_X1_isZero w_8 32) = true then (false, w_8) else (true, w_8)) else (false, w_8))) else (q_let (f_X1_takeDifferenceL r_this_digits r_p1_digits) fun w_4 => (if o_this = true then (if (f_X1_isZero w_4 32) = true then (false, w_4) else (true, w_4)) else (false, w_4)))))
set_option linter.all false in
set_option maxHeartbeats 4000000 in
set_option maxRecDepth 100000 in
theorem c_X1_addSigned (l : Launch) (D : va_G) (a_this a_this_digits a_p1 a_p1_digits : Nat) (k_this_digits k_p1_digits : ClassId) (o_this : Bool) (r_this_digits : Nat → Int32) (o_p1 : Bool) (r_p1_digits : Nat → Int32) (p2 : Bool) : CtV l yX1_addSigned cX1_addSigned 3 none { frames := 1, cells := 0, slots := 0, locals := 25 } D [.ref a_this, .ref a_p1, .int (bI p2)] [(a_this, oX1 a_this_digits o_this), (a_this_digits, .inl (k_this_digits, 32, .inl r_this_digits)), (a_p1, oX1 a_p1_digits o_p1), (a_p1_digits, .inl (k_p1_digits, 32, .inl r_p1_digits))] [(k_this_digits, .int), (k_p1_digits, .int)] (fun (u : Bool × (Nat → Int32)) => f_X1_addSigned o_this r_this_digits r_p1_digits p2 = u) (fun u => [(a_this, oX1 a_this_digits u.1), (a_this_digits, .inl (k_this_digits, 32, .inl u.2)), (a_p1, oX1 a_p1_digits o_p1), (a_p1_digits, .inl (k_p1_digits, 32, .inl r_p1_digits))]) := by
  refine CtV.of (by decide) (Nat.le_of_ble_eq_true rfl) ?_
  intro p e s m below meth c A ls Q hE hP hD hS hl hQ
  obtain ⟨hx, hb, hml, hown, ht, hN, hK, hA⟩ := hE
  have hown : s.vm.findClass RX1 = some m.cls := hown
  have hl : lv_has ls 3 [(0, .ref a_this), (1, .ref a_p1), (2, .int (bI p2))] := hl
  obtain ⟨F, hF⟩ : ∃ F, f_X1_addSigned o_this r_this_digits r_p1_digits p2 = F := ⟨_, rfl⟩
  rw [hF] at hQ
  unfold f_X1_addSigned at hF
  refine lv_aload_n hx hb dX1_addSigned_0 rfl (lv_at hl 0 rfl) ?_
  refine gf_X1_13 (v := .int (bI o_this)) hx hb hown ht hK hP 0 rfl rfl dX1_addSigned_1 ?_
  refine lv_iload_n hx hb dX1_addSigned_4 rfl (lv_at hl 2 rfl) ?_
  refine lv_icmp_ne (tgt := 16) hx hb dX1_addSigned_5 (by decide) (fun c_1 => ?_) (fun c_1 => ?_)
  · skip
    rw [if_neg c_1] at hF
    refine lv_aload_n hx hb dX1_addSigned_16 rfl (lv_at hl 0 rfl) ?_
    refine lv_aload_n hx hb dX1_addSigned_17 rfl (lv_at hl 1 rfl) ?_
    refine q_Vi (rest := []) (c_X1_orderOfDigits l D a_this a_this_digits a_p1 a_p1_digits k_this_digits k_p1_digits o_this r_this_digits o_p1 r_p1_digits) cv_X1_orderOfDigits hx hb hml hown ht hN hK hA hP hD hS hl.1 (km_X1_54) ⟨Nat.le_of_ble_eq_true rfl, Nat.le_of_ble_eq_true rfl⟩ rfl rfl [0, 1, 2, 3] (by decide) rfl [0, 1] rfl (fun _ => rfl) (ci := 1) rfl rfl rfl rfl rfl (Nat.le_of_ble_eq_true rfl) dX1_addSigned_18 ⟨Nat.zero_le _, Nat.zero_le _⟩ (fun r u H locs hw hP hD hS => ?_)
    obtain ⟨rfl, rfl⟩ := hw
    have hP : va_P D vwCl [(a_this, oX1 a_this_digits o_this), (a_this_digits, .inl (k_this_digits, 32, .inl r_this_digits)), (a_p1, oX1 a_p1_digits o_p1), (a_p1_digits, .inl (k_p1_digits, 32, .inl r_p1_digits))] H := hP
    have hD : va_D A [(a_this, oX1 a_this_digits o_this), (a_this_digits, .inl (k_this_digits, 32, .inl r_this_digits)), (a_p1, oX1 a_p1_digits o_p1), (a_p1_digits, .inl (k_p1_digits, 32, .inl r_p1_digits))] := hD
    refine lv_iconst (v := 1) hx hb dX1_addSigned_21 (by decide) ?_
    refine lv_icmp_ne (tgt := 45) hx hb dX1_addSigned_22 (by decide) (fun c_3 => ?_) (fun c_3 => ?_)
    · skip
      rw [if_neg c_3] at hF
      refine lv_aload_n hx hb dX1_addSigned_45 rfl (lv_at hl 0 rfl) ?_
      refine lv_aload_n hx hb dX1_addSigned_46 rfl (lv_at hl 0 rfl) ?_
      refine gf_X1_9 (v := .ref a_this_digits) hx hb hown ht hK hP 0 rfl rfl dX1_addSigned_47 ?_
      refine lv_aload_n hx hb dX1_addSigned_50 rfl (lv_at hl 1 rfl) ?_
      refine gf_X1_9 (v := .ref a_p1_digits) hx hb hown ht hK hP 2 rfl rfl dX1_addSigned_51 ?_
      refine q_Vv (rest := []) (c_X1_takeDifferenceL l D a_this a_this_digits a_p1_digits k_this_digits k_p1_digits o_this r_this_digits r_p1_digits) cv_X1_takeDifference hx hb hml hown ht hN hK hA hP hD hS hl.1 (km_X1_58) ⟨Nat.le_of_ble_eq_true rfl, Nat.le_of_ble_eq_true rfl⟩ rfl rfl [0, 1, 3] (by decide) rfl [0, 1] rfl (fun _ => rfl) (ci := 1) rfl rfl rfl rfl rfl (Nat.le_of_ble_eq_true rfl) dX1_addSigned_54 ⟨Nat.zero_le _, Nat.zero_le _⟩ (fun w_4 H locs hw hP hD hS => ?_)
      have hP : va_P D vwCl [(a_this, oX1 a_this_digits o_this), (a_this_digits, .inl (k_this_digits, 32, .inl w_4)), (a_p1, oX1 a_p1_digits o_p1), (a_p1_digits, .inl (k_p1_digits, 32, .inl r_p1_digits))] H := hP
      have hD : va_D A [(a_this, oX1 a_this_digits o_this), (a_this_digits, .inl (k_this_digits, 32, .inl w_4)), (a_p1, oX1 a_p1_digits o_p1), (a_p1_digits, .inl (k_p1_digits, 32, .inl r_p1_digits))] := hD
      rw [q_let_of hw] at hF
      refine lv_aload_n hx hb dX1_addSigned_57 rfl (lv_at hl 0 rfl) ?_
      refine lv_aload_n hx hb dX1_addSigned_58 rfl (lv_at hl 0 rfl) ?_
      refine gf_X1_13 (v := .int (bI o_this)) hx hb hown ht hK hP 0 rfl rfl dX1_addSigned_59 ?_
      refine lv_if_eq (tgt := 78) hx hb dX1_addSigned_62 (by decide) (fun c_5 => ?_) (fun c_5 => ?_)
      · have c_5 : ¬ o_this = true := by rw [(bI_eq0 _).mp c_5]; decide
        rw [if_neg c_5] at hF
        refine lv_iconst (v := 0) hx hb dX1_addSigned_78 (by decide) ?_
        refine pf_X1_13 (x := false) hx hb hown ht hK hP hD hS 0 rfl (Nat.le_of_ble_eq_true rfl) dX1_addSigned_79 (fun H locs hP hD hS => ?_)
        have hP : va_P D vwCl [(a_this, oX1 a_this_digits false), (a_this_digits, .inl (k_this_digits, 32, .inl w_4)), (a_p1, oX1 a_p1_digits o_p1), (a_p1_digits, .inl (k_p1_digits, 32, .inl r_p1_digits))] H := hP
        have hD : va_D A [(a_this, oX1 a_this_digits false), (a_this_digits, .inl (k_this_digits, 32, .inl w_4)), (a_p1, oX1 a_p1_digits o_p1), (a_p1_digits, .inl (k_p1_digits, 32, .inl r_p1_digits))] := hD
        exact hQ (false, w_4) _ _ _ _ dX1_addSigned_82 hF.symm hP hD hS
      · have c_5 := (bI_ne0 _).mp c_5
        rw [if_pos c_5] at hF
        refine lv_aload_n hx hb dX1_addSigned_65 rfl (lv_at hl 0 rfl) ?_
        refine lv_bipush (v := 32) hx hb dX1_addSigned_66 (by decide) ?_
        refine q_Vi (rest := [.ref a_this]) (c_X1_isZero l D a_this a_this_digits k_this_digits o_this w_4 32) cv_X1_isZero hx hb hml hown ht hN hK hA hP hD hS hl.1 (km_X1_29) ⟨Nat.le_of_ble_eq_true rfl, Nat.le_of_ble_eq_true rfl⟩ rfl rfl [0, 1] (by decide) rfl [0] rfl (fun _ => rfl) (ci := 1) rfl rfl rfl rfl rfl (Nat.le_of_ble_eq_true rfl) dX1_addSigned_68 ⟨Nat.zero_le _, Nat.zero_le _⟩ (fun r u H locs hw hP hD hS => ?_)
        obtain ⟨rfl, rfl⟩ := hw
        have hP : va_P D vwCl [(a_this, oX1 a_this_digits o_this), (a_this_digits, .inl (k_this_digits, 32, .inl w_4)), (a_p1, oX1 a_p1_digits o_p1), (a_p1_digits, .inl (k_p1_digits, 32, .inl r_p1_digits))] H := hP
        have hD : va_D A [(a_this, oX1 a_this_digits o_this), (a_this_digits, .inl (k_this_digits, 32, .inl w_4)), (a_p1, oX1 a_p1_digits o_p1), (a_p1_digits, .inl (k_p1_digits, 32, .inl r_p1_digits))] := hD
        refine lv_if_ne (tgt := 78) hx hb dX1_addSigned_71 (by decide) (fun c_7 => ?_) (fun c_7 => ?_)
        · have c_7 := (bI_ne0 _).mp c_7
          rw [if_pos c_7] at hF
          refine lv_iconst (v := 0) hx hb dX1_addSigned_78 (by decide) ?_
          refine pf_X1_13 (x := false) hx hb hown ht hK hP hD hS 0 rfl (Nat.le_of_ble_eq_true rfl) dX1_addSigned_79 (fun H locs hP hD hS => ?_)
          have hP : va_P D vwCl [(a_this, oX1 a_this_digits false), (a_this_digits, .inl (k_this_digits, 32, .inl w_4)), (a_p1, oX1 a_p1_digits o_p1), (a_p1_digits, .inl (k_p1_digits, 32, .inl r_p1_digits))] H := hP
          have hD : va_D A [(a_this, oX1 a_this_digits false), (a_this_digits, .inl (k_this_digits, 32, .inl w_4)), (a_p1, oX1 a_p1_digits o_p1), (a_p1_digits, .inl (k_p1_digits, 32, .inl r_p1_digits))] := hD
          exact hQ (false, w_4) _ _ _ _ dX1_addSigned_82 hF.symm hP hD hS
        · have c_7 : ¬ (f_X1_isZero w_4 32) = true := by rw [(bI_eq0 _).mp c_7]; decide
          rw [if_neg c_7] at hF
          refine lv_iconst (v := 1) hx hb dX1_addSigned_74 (by decide) ?_
          refine lv_goto (tgt := 79) hx hb dX1_addSigned_75 (by decide) ?_
          refine pf_X1_13 (x := true) hx hb hown ht hK hP hD hS 0 rfl (Nat.le_of_ble_eq_true rfl) dX1_addSigned_79 (fun H locs hP hD hS => ?_)
          have hP : va_P D vwCl [(a_this, oX1 a_this_digits true), (a_this_digits, .inl (k_this_digits, 32, .inl w_4)), (a_p1, oX1 a_p1_digits o_p1), (a_p1_digits, .inl (k_p1_digits, 32, .inl r_p1_digits))] H := hP
          have hD : va_D A [(a_this, oX1 a_this_digits true), (a_this_digits, .inl (k_this_digits, 32, .inl w_4)), (a_p1, oX1 a_p1_digits o_p1), (a_p1_digits, .inl (k_p1_digits, 32, .inl r_p1_digits))] := hD
          exact hQ (true, w_4) _ _ _ _ dX1_addSigned_82 hF.symm hP hD hS
    · skip
      rw [if_pos c_3] at hF
      refine lv_aload_n hx hb dX1_addSigned_25 rfl (lv_at hl 0 rfl) ?_
      refine lv_aload_n hx hb dX1_addSigned_26 rfl (lv_at hl 1 rfl) ?_
      refine gf_X1_9 (v := .ref a_p1_digits) hx hb hown ht hK hP 2 rfl rfl dX1_addSigned_27 ?_
      refine lv_aload_n hx hb dX1_addSigned_30 rfl (lv_at hl 0 rfl) ?_
      refine gf_X1_9 (v := .ref a_this_digits) hx hb hown ht hK hP 0 rfl rfl dX1_addSigned_31 ?_
      refine q_Vv (rest := []) (c_X1_takeDifferenceS l D a_this a_this_digits a_p1_digits k_this_digits k_p1_digits o_this r_this_digits r_p1_digits) cv_X1_takeDifference hx hb hml hown ht hN hK hA hP hD hS hl.1 (km_X1_58) ⟨Nat.le_of_ble_eq_true rfl, Nat.le_of_ble_eq_true rfl⟩ rfl rfl [0, 1, 3] (by decide) rfl [0, 1] rfl (fun _ => rfl) (ci := 1) rfl rfl rfl rfl rfl (Nat.le_of_ble_eq_true rfl) dX1_addSigned_34 ⟨Nat.zero_le _, Nat.zero_le _⟩ (fun w_8 H locs hw hP hD hS => ?_)
      have hP : va_P D vwCl [(a_this, oX1 a_this_digits o_this), (a_this_digits, .inl (k_this_digits, 32, .inl w_8)), (a_p1, oX1 a_p1_digits o_p1), (a_p1_digits, .inl (k_p1_digits, 32, .inl r_p1_digits))] H := hP
      have hD : va_D A [(a_this, oX1 a_this_digits o_this), (a_this_digits, .inl (k_this_digits, 32, .inl w_8)), (a_p1, oX1 a_p1_digits o_p1), (a_p1_digits, .inl (k_p1_digits, 32, .inl r_p1_digits))] := hD
      rw [q_let_of hw] at hF
      refine lv_aload_n hx hb dX1_addSigned_37 rfl (lv_at hl 0 rfl) ?_
      refine lv_iload_n hx hb dX1_addSigned_38 rfl (lv_at hl 2 rfl) ?_
      refine pf_X1_13 (x := p2) hx hb hown ht hK hP hD hS 0 rfl (Nat.le_of_ble_eq_true rfl) dX1_addSigned_39 (fun H locs hP hD hS => ?_)
      have hP : va_P D vwCl [(a_this, oX1 a_this_digits p2), (a_this_digits, .inl (k_this_digits, 32, .inl w_8)), (a_p1, oX1 a_p1_digits o_p1), (a_p1_digits, .inl (k_p1_digits, 32, .inl r_p1_digits))] H := hP
      have hD : va_D A [(a_this, oX1 a_this_digits p2), (a_this_digits, .inl (k_this_digits, 32, .inl w_8)), (a_p1, oX1 a_p1_digits o_p1), (a_p1_digits, .inl (k_p1_digits, 32, .inl r_p1_digits))] := hD
      refine lv_goto (tgt := 57) hx hb dX1_addSigned_42 (by decide) ?_
      refine lv_aload_n hx hb dX1_addSigned_57 rfl (lv_at hl 0 rfl) ?_
      refine lv_aload_n hx hb dX1_addSigned_58 rfl (lv_at hl 0 rfl) ?_
      refine gf_X1_13 (v := .int (bI p2)) hx hb hown ht hK hP 0 rfl rfl dX1_addSigned_59 ?_
      refine lv_if_eq (tgt := 78) hx hb dX1_addSigned_62 (by decide) (fun c_9 => ?_) (fun c_9 => ?_)
      · have c_9 : ¬ p2 = true := by rw [(bI_eq0 _).mp c_9]; decide
        rw [if_neg c_9] at hF
        refine lv_iconst (v := 0) hx hb dX1_addSigned_78 (by decide) ?_
        refine pf_X1_13 (x := false) hx hb hown ht hK hP hD hS 0 rfl (Nat.le_of_ble_eq_true rfl) dX1_addSigned_79 (fun H locs hP hD hS => ?_)
        have hP : va_P D vwCl [(a_this, oX1 a_this_digits false), (a_this_digits, .inl (k_this_digits, 32, .inl w_8)), (a_p1, oX1 a_p1_digits o_p1), (a_p1_digits, .inl (k_p1_digits, 32, .inl r_p1_digits))] H := hP
        have hD : va_D A [(a_this, oX1 a_this_digits false), (a_this_digits, .inl (k_this_digits, 32, .inl w_8)), (a_p1, oX1 a_p1_digits o_p1), (a_p1_digits, .inl (k_p1_digits, 32, .inl r_p1_digits))] := hD
        exact hQ (false, w_8) _ _ _ _ dX1_addSigned_82 hF.symm hP hD hS
      · have c_9 := (bI_ne0 _).mp c_9
        rw [if_pos c_9] at hF
        refine lv_aload_n hx hb dX1_addSigned_65 rfl (lv_at hl 0 rfl) ?_
        refine lv_bipush (v := 32) hx hb dX1_addSigned_66 (by decide) ?_
        refine q_Vi (rest := [.ref a_this]) (c_X1_isZero l D a_this a_this_digits k_this_digits p2 w_8 32) cv_X1_isZero hx hb hml hown ht hN hK hA hP hD hS hl.1 (km_X1_29) ⟨Nat.le_of_ble_eq_true rfl, Nat.le_of_ble_eq_true rfl⟩ rfl rfl [0, 1] (by decide) rfl [0] rfl (fun _ => rfl) (ci := 1) rfl rfl rfl rfl rfl (Nat.le_of_ble_eq_true rfl) dX1_addSigned_68 ⟨Nat.zero_le _, Nat.zero_le _⟩ (fun r u H locs hw hP hD hS => ?_)
        obtain ⟨rfl, rfl⟩ := hw
        have hP : va_P D vwCl [(a_this, oX1 a_this_digits p2), (a_this_digits, .inl (k_this_digits, 32, .inl w_8)), (a_p1, oX1 a_p1_digits o_p1), (a_p1_digits, .inl (k_p1_digits, 32, .inl r_p1_digits))] H := hP
        have hD : va_D A [(a_this, oX1 a_this_digits p2), (a_this_digits, .inl (k_this_digits, 32, .inl w_8)), (a_p1, oX1 a_p1_digits o_p1), (a_p1_digits, .inl (k_p1_digits, 32, .inl r_p1_digits))] := hD
        refine lv_if_ne (tgt := 78) hx hb dX1_addSigned_71 (by decide) (fun c_11 => ?_) (fun c_11 => ?_)
        · have c_11 := (bI_ne0 _).mp c_11
          rw [if_pos c_11] at hF
          refine lv_iconst (v := 0) hx hb dX1_addSigned_78 (by decide) ?_
          refine pf_X1_13 (x := false) hx hb hown ht hK hP hD hS 0 rfl (Nat.le_of_ble_eq_true rfl) dX1_addSigned_79 (fun H locs hP hD hS => ?_)
          have hP : va_P D vwCl [(a_this, oX1 a_this_digits false), (a_this_digits, .inl (k_this_digits, 32, .inl w_8)), (a_p1, oX1 a_p1_digits o_p1), (a_p1_digits, .inl (k_p1_digits, 32, .inl r_p1_digits))] H := hP
          have hD : va_D A [(a_this, oX1 a_this_digits false), (a_this_digits, .inl (k_this_digits, 32, .inl w_8)), (a_p1, oX1 a_p1_digits o_p1), (a_p1_digits, .inl (k_p1_digits, 32, .inl r_p1_digits))] := hD
          exact hQ (false, w_8) _ _ _ _ dX1_addSigned_82 hF.symm hP hD hS
        · have c_11 : ¬ (f_X1_isZero w_8 32) = true := by rw [(bI_eq0 _).mp c_11]; decide
          rw [if_neg c_11] at hF
          refine lv_iconst (v := 1) hx hb dX1_addSigned_74 (by decide) ?_
          refine lv_goto (tgt := 79) hx hb dX1_addSigned_75 (by decide) ?_
          refine pf_X1_13 (x := true) hx hb hown ht hK hP hD hS 0 rfl (Nat.le_of_ble_eq_true rfl) dX1_addSigned_79 (fun H locs hP hD hS => ?_)
          have hP : va_P D vwCl [(a_this, oX1 a_this_digits true), (a_this_digits, .inl (k_this_digits, 32, .inl w_8)), (a_p1, oX1 a_p1_digits o_p1), (a_p1_digits, .inl (k_p1_digits, 32, .inl r_p1_digits))] H := hP
          have hD : va_D A [(a_this, oX1 a_this_digits true), (a_this_digits, .inl (k_this_digits, 32, .inl w_8)), (a_p1, oX1 a_p1_digits o_p1), (a_p1_digits, .inl (k_p1_digits, 32, .inl r_p1_digits))] := hD
          exact hQ (true, w_8) _ _ _ _ dX1_addSigned_82 hF.symm hP hD hS
  · skip
    rw [if_pos c_1] at hF
    refine lv_aload_n hx hb dX1_addSigned_8 rfl (lv_at hl 0 rfl) ?_
    refine lv_aload_n hx hb dX1_addSigned_9 rfl (lv_at hl 1 rfl) ?_
    refine q_Vv (rest := []) (c_X1_addDigits l D a_this a_this_digits a_p1 a_p1_digits k_this_digits k_p1_digits o_this r_this_digits o_p1 r_p1_digits) cv_X1_addDigits hx hb hml hown ht hN hK hA hP hD hS hl.1 (km_X1_50) ⟨Nat.le_of_ble_eq_true rfl, Nat.le_of_ble_eq_true rfl⟩ rfl rfl [0, 1, 2, 3] (by decide) rfl [0, 1] rfl (fun _ => rfl) (ci := 1) rfl rfl rfl rfl rfl (Nat.le_of_ble_eq_true rfl) dX1_addSigned_10 ⟨Nat.zero_le _, Nat.zero_le _⟩ (fun w_12 H locs hw hP hD hS => ?_)
    have hP : va_P D vwCl [(a_this, oX1 a_this_digits o_this), (a_this_digits, .inl (k_this_digits, 32, .inl w_12)), (a_p1, oX1 a_p1_digits o_p1), (a_p1_digits, .inl (k_p1_digits, 32, .inl r_p1_digits))] H := hP
    have hD : va_D A [(a_this, oX1 a_this_digits o_this), (a_this_digits, .inl (k_this_digits, 32, .inl w_12)), (a_p1, oX1 a_p1_digits o_p1), (a_p1_digits, .inl (k_p1_digits, 32, .inl r_p1_digits))] := hD
    rw [q_let_of hw] at hF
    refine lv_goto (tgt := 57) hx hb dX1_addSigned_13 (by decide) ?_
    refine lv_aload_n hx hb dX1_addSigned_57 rfl (lv_at hl 0 rfl) ?_
    refine lv_aload_n hx hb dX1_addSigned_58 rfl (lv_at hl 0 rfl) ?_
    refine gf_X1_13 (v := .int (bI o_this)) hx hb hown ht hK hP 0 rfl rfl dX1_addSigned_59 ?_
    refine lv_if_eq (tgt := 78) hx hb dX1_addSigned_62 (by decide) (fun c_13 => ?_) (fun c_13 => ?_)
    · have c_13 : ¬ o_this = true := by rw [(bI_eq0 _).mp c_13]; decide
      rw [if_neg c_13] at hF
      refine lv_iconst (v := 0) hx hb dX1_addSigned_78 (by decide) ?_
      refine pf_X1_13 (x := false) hx hb hown ht hK hP hD hS 0 rfl (Nat.le_of_ble_eq_true rfl) dX1_addSigned_79 (fun H locs hP hD hS => ?_)
      have hP : va_P D vwCl [(a_this, oX1 a_this_digits false), (a_this_digits, .inl (k_this_digits, 32, .inl w_12)), (a_p1, oX1 a_p1_digits o_p1), (a_p1_digits, .inl (k_p1_digits, 32, .inl r_p1_digits))] H := hP
      have hD : va_D A [(a_this, oX1 a_this_digits false), (a_this_digits, .inl (k_this_digits, 32, .inl w_12)), (a_p1, oX1 a_p1_digits o_p1), (a_p1_digits, .inl (k_p1_digits, 32, .inl r_p1_digits))] := hD
      exact hQ (false, w_12) _ _ _ _ dX1_addSigned_82 hF.symm hP hD hS
    · have c_13 := (bI_ne0 _).mp c_13
      rw [if_pos c_13] at hF
      refine lv_aload_n hx hb dX1_addSigned_65 rfl (lv_at hl 0 rfl) ?_
      refine lv_bipush (v := 32) hx hb dX1_addSigned_66 (by decide) ?_
      refine q_Vi (rest := [.ref a_this]) (c_X1_isZero l D a_this a_this_digits k_this_digits o_this w_12 32) cv_X1_isZero hx hb hml hown ht hN hK hA hP hD hS hl.1 (km_X1_29) ⟨Nat.le_of_ble_eq_true rfl, Nat.le_of_ble_eq_true rfl⟩ rfl rfl [0, 1] (by decide) rfl [0] rfl (fun _ => rfl) (ci := 1) rfl rfl rfl rfl rfl (Nat.le_of_ble_eq_true rfl) dX1_addSigned_68 ⟨Nat.zero_le _, Nat.zero_le _⟩ (fun r u H locs hw hP hD hS => ?_)
      obtain ⟨rfl, rfl⟩ := hw
      have hP : va_P D vwCl [(a_this, oX1 a_this_digits o_this), (a_this_digits, .inl (k_this_digits, 32, .inl w_12)), (a_p1, oX1 a_p1_digits o_p1), (a_p1_digits, .inl (k_p1_digits, 32, .inl r_p1_digits))] H := hP
      have hD : va_D A [(a_this, oX1 a_this_digits o_this), (a_this_digits, .inl (k_this_digits, 32, .inl w_12)), (a_p1, oX1 a_p1_digits o_p1), (a_p1_digits, .inl (k_p1_digits, 32, .inl r_p1_digits))] := hD
      refine lv_if_ne (tgt := 78) hx hb dX1_addSigned_71 (by decide) (fun c_15 => ?_) (fun c_15 => ?_)
      · have c_15 := (bI_ne0 _).mp c_15
        rw [if_pos c_15] at hF
        refine lv_iconst (v := 0) hx hb dX1_addSigned_78 (by decide) ?_
        refine pf_X1_13 (x := false) hx hb hown ht hK hP hD hS 0 rfl (Nat.le_of_ble_eq_true rfl) dX1_addSigned_79 (fun H locs hP hD hS => ?_)
        have hP : va_P D vwCl [(a_this, oX1 a_this_digits false), (a_this_digits, .inl (k_this_digits, 32, .inl w_12)), (a_p1, oX1 a_p1_digits o_p1), (a_p1_digits, .inl (k_p1_digits, 32, .inl r_p1_digits))] H := hP
        have hD : va_D A [(a_this, oX1 a_this_digits false), (a_this_digits, .inl (k_this_digits, 32, .inl w_12)), (a_p1, oX1 a_p1_digits o_p1), (a_p1_digits, .inl (k_p1_digits, 32, .inl r_p1_digits))] := hD
        exact hQ (false, w_12) _ _ _ _ dX1_addSigned_82 hF.symm hP hD hS
      · have c_15 : ¬ (f_X1_isZero w_12 32) = true := by rw [(bI_eq0 _).mp c_15]; decide
        rw [if_neg c_15] at hF
        refine lv_iconst (v := 1) hx hb dX1_addSigned_74 (by decide) ?_
        refine lv_goto (tgt := 79) hx hb dX1_addSigned_75 (by decide) ?_
        refine pf_X1_13 (x := true) hx hb hown ht hK hP hD hS 0 rfl (Nat.le_of_ble_eq_true rfl) dX1_addSigned_79 (fun H locs hP hD hS => ?_)
        have hP : va_P D vwCl [(a_this, oX1 a_this_digits true), (a_this_digits, .inl (k_this_digits, 32, .inl w_12)), (a_p1, oX1 a_p1_digits o_p1), (a_p1_digits, .inl (k_p1_digits, 32, .inl r_p1_digits))] H := hP
        have hD : va_D A [(a_this, oX1 a_this_digits true), (a_this_digits, .inl (k_this_digits, 32, .inl w_12)), (a_p1, oX1 a_p1_digits o_p1), (a_p1_digits, .inl (k_p1_digits, 32, .inl r_p1_digits))] := hD
        exact hQ (true, w_12) _ _ _ _ dX1_addSigned_82 hF.symm hP hD hS
theorem cv_X1_addSigned : qV yX1_addSigned cX1_addSigned 3 none 2 := ⟨kc_X1_addSigned, kt_X1_addSigned, ks_X1_addSigned, kn_X1, by decide, by decide +kernel⟩
def f_X1_add (o_this : Bool) (r_this_digits : Nat → Int32) (o_p1 : Bool) (r_p1_digits : Nat → Int32) : Bool × (Nat → Int32) := (q_let (f_X1_addSigned o_this r_this_digits r_p1_digits o_p1) fun w_1 => (w_1.1, w_1.2))
set_option linter.all false in
set_option maxHeartbeats 4000000 in
set_option maxRecDepth 100000 in
theorem c_X1_add (l : Launch) (D : va_G) (a_this a_this_digits a_p1 a_p1_digits : Nat) (k_this_digits k_p1_digits : ClassId) (o_this : Bool) (r_this_digits : Nat → Int32) (o_p1 : Bool) (r_p1_digits : Nat → Int32) : CtV l yX1_add cX1_add 2 none { frames := 2, cells := 0, slots := 0, locals := 47 } D [.ref a_this, .ref a_p1] [(a_this, oX1 a_this_digits o_this), (a_this_digits, .inl (k_this_digits, 32, .inl r_this_digits)), (a_p1, oX1 a_p1_digits o_p1), (a_p1_digits, .inl (k_p1_digits, 32, .inl r_p1_digits))] [(k_this_digits, .int), (k_p1_digits, .int)] (fun (u : Bool × (Nat → Int32)) => f_X1_add o_this r_this_digits o_p1 r_p1_digits = u) (fun u => [(a_this, oX1 a_this_digits u.1), (a_this_digits, .inl (k_this_digits, 32, .inl u.2)), (a_p1, oX1 a_p1_digits o_p1), (a_p1_digits, .inl (k_p1_digits, 32, .inl r_p1_digits))]) := by
  refine CtV.of (by decide) (Nat.le_of_ble_eq_true rfl) ?_
  intro p e s m below meth c A ls Q hE hP hD hS hl hQ
  obtain ⟨hx, hb, hml, hown, ht, hN, hK, hA⟩ := hE
  have hown : s.vm.findClass RX1 = some m.cls := hown
  have hl : lv_has ls 2 [(0, .ref a_this), (1, .ref a_p1)] := hl
  obtain ⟨F, hF⟩ : ∃ F, f_X1_add o_this r_this_digits o_p1 r_p1_digits = F := ⟨_, rfl⟩
  rw [hF] at hQ
  unfold f_X1_add at hF
  refine lv_aload_n hx hb dX1_add_0 rfl (lv_at hl 0 rfl) ?_
  refine lv_aload_n hx hb dX1_add_1 rfl (lv_at hl 1 rfl) ?_
  refine lv_aload_n hx hb dX1_add_2 rfl (lv_at hl 1 rfl) ?_
  refine gf_X1_13 (v := .int (bI o_p1)) hx hb hown ht hK hP 2 rfl rfl dX1_add_3 ?_
  refine q_Vv (rest := []) (c_X1_addSigned l D a_this a_this_digits a_p1 a_p1_digits k_this_digits k_p1_digits o_this r_this_digits o_p1 r_p1_digits o_p1) cv_X1_addSigned hx hb hml hown ht hN hK hA hP hD hS hl.1 (km_X1_46) ⟨Nat.le_of_ble_eq_true rfl, Nat.le_of_ble_eq_true rfl⟩ rfl rfl [0, 1, 2, 3] (by decide) rfl [0, 1] rfl (fun _ => rfl) (ci := 1) rfl rfl rfl rfl rfl (Nat.le_of_ble_eq_true rfl) dX1_add_6 ⟨Nat.zero_le _, Nat.zero_le _⟩ (fun w_1 H locs hw hP hD hS => ?_)
  have hP : va_P D vwCl [(a_this, oX1 a_this_digits w_1.1), (a_this_digits, .inl (k_this_digits, 32, .inl w_1.2)), (a_p1, oX1 a_p1_digits o_p1), (a_p1_digits, .inl (k_p1_digits, 32, .inl r_p1_digits))] H := hP
  have hD : va_D A [(a_this, oX1 a_this_digits w_1.1), (a_this_digits, .inl (k_this_digits, 32, .inl w_1.2)), (a_p1, oX1 a_p1_digits o_p1), (a_p1_digits, .inl (k_p1_digits, 32, .inl r_p1_digits))] := hD
  rw [q_let_of hw] at hF
  exact hQ (w_1.1, w_1.2) _ _ _ _ dX1_add_9 hF.symm hP hD hS
theorem cv_X1_add : qV yX1_add cX1_add 2 none 1 := ⟨kc_X1_add, kt_X1_add, ks_X1_add, kn_X1, by decide, by decide +kernel⟩
def f_X1_subtract (o_this : Bool) (r_this_digits : Nat → Int32) (o_p1 : Bool) (r_p1_digits : Nat → Int32) : Bool × (Nat → Int32) := (if o_p1 = true then (q_let (f_X1_addSigned o_this r_this_digits r_p1_digits false) fun w_2 => (w_2.1, w_2.2)) else (q_let (f_X1_addSigned o_this r_this_digits r_p1_digits true) fun w_3 => (w_3.1, w_3.2)))
set_option linter.all false in
set_option maxHeartbeats 4000000 in
set_option maxRecDepth 100000 in
theorem c_X1_subtract (l : Launch) (D : va_G) (a_this a_this_digits a_p1 a_p1_digits : Nat) (k_this_digits k_p1_digits : ClassId) (o_this : Bool) (r_this_digits : Nat → Int32) (o_p1 : Bool) (r_p1_digits : Nat → Int32) : CtV l yX1_subtract cX1_subtract 2 none { frames := 2, cells := 0, slots := 0, locals := 47 } D [.ref a_this, .ref a_p1] [(a_this, oX1 a_this_digits o_this), (a_this_digits, .inl (k_this_digits, 32, .inl r_this_digits)), (a_p1, oX1 a_p1_digits o_p1), (a_p1_digits, .inl (k_p1_digits, 32, .inl r_p1_digits))] [(k_this_digits, .int), (k_p1_digits, .int)] (fun (u : Bool × (Nat → Int32)) => f_X1_subtract o_this r_this_digits o_p1 r_p1_digits = u) (fun u => [(a_this, oX1 a_this_digits u.1), (a_this_digits, .inl (k_this_digits, 32, .inl u.2)), (a_p1, oX1 a_p1_digits o_p1), (a_p1_digits, .inl (k_p1_digits, 32, .inl r_p1_digits))]) := by
  refine CtV.of (by decide) (Nat.le_of_ble_eq_true rfl) ?_
  intro p e s m below meth c A ls Q hE hP hD hS hl hQ
  obtain ⟨hx, hb, hml, hown, ht, hN, hK, hA⟩ := hE
  have hown : s.vm.findClass RX1 = some m.cls := hown
  have hl : lv_has ls 2 [(0, .ref a_this), (1, .ref a_p1)] := hl
  obtain ⟨F, hF⟩ : ∃ F, f_X1_subtract o_this r_this_digits o_p1 r_p1_digits = F := ⟨_, rfl⟩
  rw [hF] at hQ
  unfold f_X1_subtract at hF
  refine lv_aload_n hx hb dX1_subtract_0 rfl (lv_at hl 0 rfl) ?_
  refine lv_aload_n hx hb dX1_subtract_1 rfl (lv_at hl 1 rfl) ?_
  refine lv_aload_n hx hb dX1_subtract_2 rfl (lv_at hl 1 rfl) ?_
  refine gf_X1_13 (v := .int (bI o_p1)) hx hb hown ht hK hP 2 rfl rfl dX1_subtract_3 ?_
  refine lv_if_ne (tgt := 13) hx hb dX1_subtract_6 (by decide) (fun c_1 => ?_) (fun c_1 => ?_)
  · have c_1 := (bI_ne0 _).mp c_1
    rw [if_pos c_1] at hF
    refine lv_iconst (v := 0) hx hb dX1_subtract_13 (by decide) ?_
    refine q_Vv (rest := []) (c_X1_addSigned l D a_this a_this_digits a_p1 a_p1_digits k_this_digits k_p1_digits o_this r_this_digits o_p1 r_p1_digits false) cv_X1_addSigned hx hb hml hown ht hN hK hA hP hD hS hl.1 (km_X1_46) ⟨Nat.le_of_ble_eq_true rfl, Nat.le_of_ble_eq_true rfl⟩ rfl rfl [0, 1, 2, 3] (by decide) rfl [0, 1] rfl (fun _ => rfl) (ci := 1) rfl rfl rfl rfl rfl (Nat.le_of_ble_eq_true rfl) dX1_subtract_14 ⟨Nat.zero_le _, Nat.zero_le _⟩ (fun w_2 H locs hw hP hD hS => ?_)
    have hP : va_P D vwCl [(a_this, oX1 a_this_digits w_2.1), (a_this_digits, .inl (k_this_digits, 32, .inl w_2.2)), (a_p1, oX1 a_p1_digits o_p1), (a_p1_digits, .inl (k_p1_digits, 32, .inl r_p1_digits))] H := hP
    have hD : va_D A [(a_this, oX1 a_this_digits w_2.1), (a_this_digits, .inl (k_this_digits, 32, .inl w_2.2)), (a_p1, oX1 a_p1_digits o_p1), (a_p1_digits, .inl (k_p1_digits, 32, .inl r_p1_digits))] := hD
    rw [q_let_of hw] at hF
    exact hQ (w_2.1, w_2.2) _ _ _ _ dX1_subtract_17 hF.symm hP hD hS
  · have c_1 : ¬ o_p1 = true := by rw [(bI_eq0 _).mp c_1]; decide
    rw [if_neg c_1] at hF
    refine lv_iconst (v := 1) hx hb dX1_subtract_9 (by decide) ?_
    refine lv_goto (tgt := 14) hx hb dX1_subtract_10 (by decide) ?_
    refine q_Vv (rest := []) (c_X1_addSigned l D a_this a_this_digits a_p1 a_p1_digits k_this_digits k_p1_digits o_this r_this_digits o_p1 r_p1_digits true) cv_X1_addSigned hx hb hml hown ht hN hK hA hP hD hS hl.1 (km_X1_46) ⟨Nat.le_of_ble_eq_true rfl, Nat.le_of_ble_eq_true rfl⟩ rfl rfl [0, 1, 2, 3] (by decide) rfl [0, 1] rfl (fun _ => rfl) (ci := 1) rfl rfl rfl rfl rfl (Nat.le_of_ble_eq_true rfl) dX1_subtract_14 ⟨Nat.zero_le _, Nat.zero_le _⟩ (fun w_3 H locs hw hP hD hS => ?_)
    have hP : va_P D vwCl [(a_this, oX1 a_this_digits w_3.1), (a_this_digits, .inl (k_this_digits, 32, .inl w_3.2)), (a_p1, oX1 a_p1_digits o_p1), (a_p1_digits, .inl (k_p1_digits, 32, .inl r_p1_digits))] H := hP
    have hD : va_D A [(a_this, oX1 a_this_digits w_3.1), (a_this_digits, .inl (k_this_digits, 32, .inl w_3.2)), (a_p1, oX1 a_p1_digits o_p1), (a_p1_digits, .inl (k_p1_digits, 32, .inl r_p1_digits))] := hD
    rw [q_let_of hw] at hF
    exact hQ (w_3.1, w_3.2) _ _ _ _ dX1_subtract_17 hF.symm hP hD hS
theorem cv_X1_subtract : qV yX1_subtract cX1_subtract 2 none 1 := ⟨kc_X1_subtract, kt_X1_subtract, ks_X1_subtract, kn_X1, by decide, by decide +kernel⟩
def f_X1_orderWith (o_this : Bool) (r_this_digits : Nat → Int32) (o_p1 : Bool) (r_p1_digits : Nat → Int32) : Int32 := (if bI o_this = bI o_p1 then (if o_this = true then (f_X1_orderOfDigits r_p1_digits r_this_digits) else (f_X1_orderOfDigits r_this_digits r_p1_digits)) else (if o_this = true then 1 else 2))
set_option linter.all false in
set_option maxHeartbeats 4000000 in
set_option maxRecDepth 100000 in
theorem c_X1_orderWith (l : Launch) (D : va_G) (a_this a_this_digits a_p1 a_p1_digits : Nat) (k_this_digits k_p1_digits : ClassId) (o_this : Bool) (r_this_digits : Nat → Int32) (o_p1 : Bool) (r_p1_digits : Nat → Int32) : CtI l yX1_orderWith cX1_orderWith 2 (some .int) { frames := 1, cells := 0, slots := 0, locals := 22 } D [.ref a_this, .ref a_p1] [(a_this, oX1 a_this_digits o_this), (a_this_digits, .inl (k_this_digits, 32, .inl r_this_digits)), (a_p1, oX1 a_p1_digits o_p1), (a_p1_digits, .inl (k_p1_digits, 32, .inl r_p1_digits))] [(k_this_digits, .int), (k_p1_digits, .int)] (fun (r : Int32) (u : Int32) => f_X1_orderWith o_this r_this_digits o_p1 r_p1_digits = u ∧ r = u) (fun u => [(a_this, oX1 a_this_digits o_this), (a_this_digits, .inl (k_this_digits, 32, .inl r_this_digits)), (a_p1, oX1 a_p1_digits o_p1), (a_p1_digits, .inl (k_p1_digits, 32, .inl r_p1_digits))]) := by
  refine CtI.of (by decide) (Nat.le_of_ble_eq_true rfl) ?_
  intro p e s m below meth c A ls Q hE hP hD hS hl hQ
  obtain ⟨hx, hb, hml, hown, ht, hN, hK, hA⟩ := hE
  have hown : s.vm.findClass RX1 = some m.cls := hown
  have hl : lv_has ls 2 [(0, .ref a_this), (1, .ref a_p1)] := hl
  obtain ⟨F, hF⟩ : ∃ F, f_X1_orderWith o_this r_this_digits o_p1 r_p1_digits = F := ⟨_, rfl⟩
  rw [hF] at hQ
  unfold f_X1_orderWith at hF
  refine lv_aload_n hx hb dX1_orderWith_0 rfl (lv_at hl 0 rfl) ?_
  refine gf_X1_13 (v := .int (bI o_this)) hx hb hown ht hK hP 0 rfl rfl dX1_orderWith_1 ?_
  refine lv_aload_n hx hb dX1_orderWith_4 rfl (lv_at hl 1 rfl) ?_
  refine gf_X1_13 (v := .int (bI o_p1)) hx hb hown ht hK hP 2 rfl rfl dX1_orderWith_5 ?_
  refine lv_icmp_eq (tgt := 24) hx hb dX1_orderWith_8 (by decide) (fun c_1 => ?_) (fun c_1 => ?_)
  · skip
    rw [if_pos c_1] at hF
    refine lv_aload_n hx hb dX1_orderWith_24 rfl (lv_at hl 0 rfl) ?_
    refine gf_X1_13 (v := .int (bI o_this)) hx hb hown ht hK hP 0 rfl rfl dX1_orderWith_25 ?_
    refine lv_if_eq (tgt := 39) hx hb dX1_orderWith_28 (by decide) (fun c_2 => ?_) (fun c_2 => ?_)
    · have c_2 : ¬ o_this = true := by rw [(bI_eq0 _).mp c_2]; decide
      rw [if_neg c_2] at hF
      refine lv_aload_n hx hb dX1_orderWith_39 rfl (lv_at hl 0 rfl) ?_
      refine lv_aload_n hx hb dX1_orderWith_40 rfl (lv_at hl 1 rfl) ?_
      refine q_Vi (rest := []) (c_X1_orderOfDigits l D a_this a_this_digits a_p1 a_p1_digits k_this_digits k_p1_digits o_this r_this_digits o_p1 r_p1_digits) cv_X1_orderOfDigits hx hb hml hown ht hN hK hA hP hD hS hl.1 (km_X1_54) ⟨Nat.le_of_ble_eq_true rfl, Nat.le_of_ble_eq_true rfl⟩ rfl rfl [0, 1, 2, 3] (by decide) rfl [0, 1] rfl (fun _ => rfl) (ci := 1) rfl rfl rfl rfl rfl (Nat.le_of_ble_eq_true rfl) dX1_orderWith_41 ⟨Nat.zero_le _, Nat.zero_le _⟩ (fun r u H locs hw hP hD hS => ?_)
      obtain ⟨rfl, rfl⟩ := hw
      have hP : va_P D vwCl [(a_this, oX1 a_this_digits o_this), (a_this_digits, .inl (k_this_digits, 32, .inl r_this_digits)), (a_p1, oX1 a_p1_digits o_p1), (a_p1_digits, .inl (k_p1_digits, 32, .inl r_p1_digits))] H := hP
      have hD : va_D A [(a_this, oX1 a_this_digits o_this), (a_this_digits, .inl (k_this_digits, 32, .inl r_this_digits)), (a_p1, oX1 a_p1_digits o_p1), (a_p1_digits, .inl (k_p1_digits, 32, .inl r_p1_digits))] := hD
      exact hQ (f_X1_orderOfDigits r_this_digits r_p1_digits) (f_X1_orderOfDigits r_this_digits r_p1_digits) _ _ _ _ dX1_orderWith_44 ⟨hF.symm, rfl⟩ hP hD hS
    · have c_2 := (bI_ne0 _).mp c_2
      rw [if_pos c_2] at hF
      refine lv_aload_n hx hb dX1_orderWith_31 rfl (lv_at hl 1 rfl) ?_
      refine lv_aload_n hx hb dX1_orderWith_32 rfl (lv_at hl 0 rfl) ?_
      refine q_Vi (rest := []) (c_X1_orderOfDigits l D a_p1 a_p1_digits a_this a_this_digits k_p1_digits k_this_digits o_p1 r_p1_digits o_this r_this_digits) cv_X1_orderOfDigits hx hb hml hown ht hN hK hA hP hD hS hl.1 (km_X1_54) ⟨Nat.le_of_ble_eq_true rfl, Nat.le_of_ble_eq_true rfl⟩ rfl rfl [2, 3, 0, 1] (by decide) rfl [1, 0] rfl (fun _ => rfl) (ci := 1) rfl rfl rfl rfl rfl (Nat.le_of_ble_eq_true rfl) dX1_orderWith_33 ⟨Nat.zero_le _, Nat.zero_le _⟩ (fun r u H locs hw hP hD hS => ?_)
      obtain ⟨rfl, rfl⟩ := hw
      have hP : va_P D vwCl [(a_this, oX1 a_this_digits o_this), (a_this_digits, .inl (k_this_digits, 32, .inl r_this_digits)), (a_p1, oX1 a_p1_digits o_p1), (a_p1_digits, .inl (k_p1_digits, 32, .inl r_p1_digits))] H := hP
      have hD : va_D A [(a_this, oX1 a_this_digits o_this), (a_this_digits, .inl (k_this_digits, 32, .inl r_this_digits)), (a_p1, oX1 a_p1_digits o_p1), (a_p1_digits, .inl (k_p1_digits, 32, .inl r_p1_digits))] := hD
      refine lv_goto (tgt := 44) hx hb dX1_orderWith_36 (by decide) ?_
      exact hQ (f_X1_orderOfDigits r_p1_digits r_this_digits) (f_X1_orderOfDigits r_p1_digits r_this_digits) _ _ _ _ dX1_orderWith_44 ⟨hF.symm, rfl⟩ hP hD hS
  · skip
    rw [if_neg c_1] at hF
    refine lv_aload_n hx hb dX1_orderWith_11 rfl (lv_at hl 0 rfl) ?_
    refine gf_X1_13 (v := .int (bI o_this)) hx hb hown ht hK hP 0 rfl rfl dX1_orderWith_12 ?_
    refine lv_if_eq (tgt := 22) hx hb dX1_orderWith_15 (by decide) (fun c_5 => ?_) (fun c_5 => ?_)
    · have c_5 : ¬ o_this = true := by rw [(bI_eq0 _).mp c_5]; decide
      rw [if_neg c_5] at hF
      refine lv_iconst (v := 2) hx hb dX1_orderWith_22 (by decide) ?_
      exact hQ 2 2 _ _ _ _ dX1_orderWith_23 ⟨hF.symm, rfl⟩ hP hD hS
    · have c_5 := (bI_ne0 _).mp c_5
      rw [if_pos c_5] at hF
      refine lv_iconst (v := 1) hx hb dX1_orderWith_18 (by decide) ?_
      refine lv_goto (tgt := 23) hx hb dX1_orderWith_19 (by decide) ?_
      exact hQ 1 1 _ _ _ _ dX1_orderWith_23 ⟨hF.symm, rfl⟩ hP hD hS
theorem cv_X1_orderWith : qV yX1_orderWith cX1_orderWith 2 (some .int) 1 := ⟨kc_X1_orderWith, kt_X1_orderWith, ks_X1_orderWith, kn_X1, by decide, by decide +kernel⟩
def f_X1_signCode (o_this : Bool) (r_this_digits : Nat → Int32) : Int32 := (if o_this = true then 1 else (if (f_X1_isZero r_this_digits 32) = true then 0 else 2))
set_option linter.all false in
set_option maxHeartbeats 4000000 in
set_option maxRecDepth 100000 in
theorem c_X1_signCode (l : Launch) (D : va_G) (a_this a_this_digits : Nat) (k_this_digits : ClassId) (o_this : Bool) (r_this_digits : Nat → Int32) : CtI l yX1_signCode cX1_signCode 1 (some .int) { frames := 1, cells := 0, slots := 0, locals := 22 } D [.ref a_this] [(a_this, oX1 a_this_digits o_this), (a_this_digits, .inl (k_this_digits, 32, .inl r_this_digits))] [(k_this_digits, .int)] (fun (r : Int32) (u : Int32) => f_X1_signCode o_this r_this_digits = u ∧ r = u) (fun u => [(a_this, oX1 a_this_digits o_this), (a_this_digits, .inl (k_this_digits, 32, .inl r_this_digits))]) := by
  refine CtI.of (by decide) (Nat.le_of_ble_eq_true rfl) ?_
  intro p e s m below meth c A ls Q hE hP hD hS hl hQ
  obtain ⟨hx, hb, hml, hown, ht, hN, hK, hA⟩ := hE
  have hown : s.vm.findClass RX1 = some m.cls := hown
  have hl : lv_has ls 1 [(0, .ref a_this)] := hl
  obtain ⟨F, hF⟩ : ∃ F, f_X1_signCode o_this r_this_digits = F := ⟨_, rfl⟩
  rw [hF] at hQ
  unfold f_X1_signCode at hF
  refine lv_aload_n hx hb dX1_signCode_0 rfl (lv_at hl 0 rfl) ?_
  refine gf_X1_13 (v := .int (bI o_this)) hx hb hown ht hK hP 0 rfl rfl dX1_signCode_1 ?_
  refine lv_if_eq (tgt := 9) hx hb dX1_signCode_4 (by decide) (fun c_1 => ?_) (fun c_1 => ?_)
  · have c_1 : ¬ o_this = true := by rw [(bI_eq0 _).mp c_1]; decide
    rw [if_neg c_1] at hF
    refine lv_aload_n hx hb dX1_signCode_9 rfl (lv_at hl 0 rfl) ?_
    refine lv_bipush (v := 32) hx hb dX1_signCode_10 (by decide) ?_
    refine q_Vi (rest := []) (c_X1_isZero l D a_this a_this_digits k_this_digits o_this r_this_digits 32) cv_X1_isZero hx hb hml hown ht hN hK hA hP hD hS hl.1 (km_X1_29) ⟨Nat.le_of_ble_eq_true rfl, Nat.le_of_ble_eq_true rfl⟩ rfl rfl [0, 1] (by decide) rfl [0] rfl (fun _ => rfl) (ci := 1) rfl rfl rfl rfl rfl (Nat.le_of_ble_eq_true rfl) dX1_signCode_12 ⟨Nat.zero_le _, Nat.zero_le _⟩ (fun r u H locs hw hP hD hS => ?_)
    obtain ⟨rfl, rfl⟩ := hw
    have hP : va_P D vwCl [(a_this, oX1 a_this_digits o_this), (a_this_digits, .inl (k_this_digits, 32, .inl r_this_digits))] H := hP
    have hD : va_D A [(a_this, oX1 a_this_digits o_this), (a_this_digits, .inl (k_this_digits, 32, .inl r_this_digits))] := hD
    refine lv_if_eq (tgt := 22) hx hb dX1_signCode_15 (by decide) (fun c_3 => ?_) (fun c_3 => ?_)
    · have c_3 : ¬ (f_X1_isZero r_this_digits 32) = true := by rw [(bI_eq0 _).mp c_3]; decide
      rw [if_neg c_3] at hF
      refine lv_iconst (v := 2) hx hb dX1_signCode_22 (by decide) ?_
      exact hQ 2 2 _ _ _ _ dX1_signCode_23 ⟨hF.symm, rfl⟩ hP hD hS
    · have c_3 := (bI_ne0 _).mp c_3
      rw [if_pos c_3] at hF
      refine lv_iconst (v := 0) hx hb dX1_signCode_18 (by decide) ?_
      refine lv_goto (tgt := 23) hx hb dX1_signCode_19 (by decide) ?_
      exact hQ 0 0 _ _ _ _ dX1_signCode_23 ⟨hF.symm, rfl⟩ hP hD hS
  · have c_1 := (bI_ne0 _).mp c_1
    rw [if_pos c_1] at hF
    refine lv_iconst (v := 1) hx hb dX1_signCode_7 (by decide) ?_
    exact hQ 1 1 _ _ _ _ dX1_signCode_8 ⟨hF.symm, rfl⟩ hP hD hS
theorem cv_X1_signCode : qV yX1_signCode cX1_signCode 1 (some .int) 0 := ⟨kc_X1_signCode, kt_X1_signCode, ks_X1_signCode, kn_X1, by decide, by decide +kernel⟩
def f_X1_value_L5 (o_this : Bool) (r_this_digits : Nat → Int32) : Nat → Int32 → Int64 → Int64
  | 0, x3, x1 => 0
  | fuel + 1, x3, x1 => (if x3 < 0 then (if o_this = true then (-x1) else x1) else f_X1_value_L5 o_this r_this_digits fuel (x3 + ((-1) : Int32)) ((x1 * (10 : Int64)) + ((r_this_digits x3.toNatClampNeg).toInt64)))
def f_X1_value (o_this : Bool) (r_this_digits : Nat → Int32) : Int64 := f_X1_value_L5 o_this r_this_digits (((14 : Int32).toInt + 1).toNat + 1) 14 0
set_option linter.all false in
set_option maxHeartbeats 4000000 in
set_option maxRecDepth 100000 in
theorem c_X1_value (l : Launch) (D : va_G) (a_this a_this_digits : Nat) (k_this_digits : ClassId) (o_this : Bool) (r_this_digits : Nat → Int32) : CtL l yX1_value cX1_value 4 (some .long) { frames := 0, cells := 0, slots := 0, locals := 0 } D [.ref a_this] [(a_this, oX1 a_this_digits o_this), (a_this_digits, .inl (k_this_digits, 32, .inl r_this_digits))] [(k_this_digits, .int)] (fun (r : Int64) (u : Int64) => f_X1_value o_this r_this_digits = u ∧ r = u) (fun u => [(a_this, oX1 a_this_digits o_this), (a_this_digits, .inl (k_this_digits, 32, .inl r_this_digits))]) := by
  refine CtL.of (by decide) (Nat.le_of_ble_eq_true rfl) ?_
  intro p e s m below meth c A ls Q hE hP hD hS hl hQ
  obtain ⟨hx, hb, hml, hown, ht, hN, hK, hA⟩ := hE
  have hown : s.vm.findClass RX1 = some m.cls := hown
  have hl : lv_has ls 4 [(0, .ref a_this)] := hl
  obtain ⟨F, hF⟩ : ∃ F, f_X1_value o_this r_this_digits = F := ⟨_, rfl⟩
  rw [hF] at hQ
  unfold f_X1_value at hF
  refine lv_lconst (v := 0) hx hb dX1_value_0 (by decide) ?_
  refine lv_lstore_n (lv' := [(1, .long 0), (0, .ref a_this)]) hx hb dX1_value_1 rfl hl (by decide) rfl (fun ls hl => ?_)
  refine lv_bipush (v := 14) hx hb dX1_value_2 (by decide) ?_
  refine lv_istore_n (lv' := [(3, .int 14), (1, .long 0), (0, .ref a_this)]) hx hb dX1_value_4 rfl hl (by decide) rfl (fun ls hl => ?_)
  have L5 : ∀ (fuel : Nat) (x3 : Int32) (x1 : Int64) (H : Heap) (locs : List Loc) (ls : Array Slot), ((x3 : Int32).toInt + 1).toNat < fuel → ¬ 32 ≤ x3 → va_P D vwCl [(a_this, oX1 a_this_digits o_this), (a_this_digits, .inl (k_this_digits, 32, .inl r_this_digits))] H → va_D A [(a_this, oX1 a_this_digits o_this), (a_this_digits, .inl (k_this_digits, 32, .inl r_this_digits))] → va_S A s.heap H locs → lv_has ls 4 [(3, .int x3), (1, .long x1), (0, .ref a_this)] → f_X1_value_L5 o_this r_this_digits fuel x3 x1 = F → W p l e ({ frames := 0, cells := 0, slots := 0, locals := 0 } : Room) s m ([.ref a_this] : List Value).toArray below meth c H locs 0 0 Q (F0 m 5 ls []) := by
    intro fuel
    induction fuel with
    | zero => intro x3 x1 H locs ls hm; exact absurd hm (Nat.not_lt_zero _)
    | succ fuel ih =>
      intro x3 x1 H locs ls hm hv hP hD hS hl hF
      rw [f_X1_value_L5] at hF
      skip
      refine lv_iload_n hx hb dX1_value_5 rfl (lv_at hl 0 rfl) ?_
      refine lv_if_lt (tgt := 29) hx hb dX1_value_6 (by decide) (fun c_2 => ?_) (fun c_2 => ?_)
      · skip
        rw [if_pos c_2] at hF
        refine lv_aload_n hx hb dX1_value_29 rfl (lv_at hl 2 rfl) ?_
        refine gf_X1_13 (v := .int (bI o_this)) hx hb hown ht hK hP 0 rfl rfl dX1_value_30 ?_
        refine lv_if_eq (tgt := 41) hx hb dX1_value_33 (by decide) (fun c_3 => ?_) (fun c_3 => ?_)
        · have c_3 : ¬ o_this = true := by rw [(bI_eq0 _).mp c_3]; decide
          rw [if_neg c_3] at hF
          refine lv_lload_n hx hb dX1_value_41 rfl (lv_at hl 1 rfl) ?_
          exact hQ x1 x1 _ _ _ _ dX1_value_42 ⟨hF.symm, rfl⟩ hP hD hS
        · have c_3 := (bI_ne0 _).mp c_3
          rw [if_pos c_3] at hF
          refine lv_lload_n hx hb dX1_value_36 rfl (lv_at hl 1 rfl) ?_
          refine lv_lneg hx hb dX1_value_37 ?_
          refine lv_goto (tgt := 42) hx hb dX1_value_38 (by decide) ?_
          exact hQ (-x1) (-x1) _ _ _ _ dX1_value_42 ⟨hF.symm, rfl⟩ hP hD hS
      · skip
        rw [if_neg c_2] at hF
        refine lv_lload_n hx hb dX1_value_9 rfl (lv_at hl 1 rfl) ?_
        refine lv_ldc2 (v := 10) hx hb hown (ht _ kj_X1_23) dX1_value_10 ?_
        refine lv_lmul hx hb dX1_value_13 ?_
        refine lv_aload_n hx hb dX1_value_14 rfl (lv_at hl 2 rfl) ?_
        refine gf_X1_9 (v := .ref a_this_digits) hx hb hown ht hK hP 0 rfl rfl dX1_value_15 ?_
        refine lv_iload_n hx hb dX1_value_18 rfl (lv_at hl 0 rfl) ?_
        refine va_iald hx hb hK hP 1 0 rfl rfl (q_in c_2 hv (by decide)) dX1_value_19 ?_
        refine lv_i2l hx hb dX1_value_20 rfl ?_
        refine lv_ladd hx hb dX1_value_21 ?_
        refine lv_lstore_n (lv' := [(1, .long ((x1 * (10 : Int64)) + ((r_this_digits x3.toNatClampNeg).toInt64))), (3, .int x3), (0, .ref a_this)]) hx hb dX1_value_22 rfl hl (by decide) rfl (fun ls hl => ?_)
        refine lv_iinc (v := (x3 + ((-1) : Int32))) (lv' := [(3, .int (x3 + ((-1) : Int32))), (1, .long ((x1 * (10 : Int64)) + ((r_this_digits x3.toNatClampNeg).toInt64))), (0, .ref a_this)]) hx hb dX1_value_23 hl (k := 1) rfl rfl (by decide) rfl (fun ls hl => ?_)
        refine lv_goto (tgt := 5) hx hb dX1_value_26 (by decide) ?_
        exact ih (x3 + ((-1) : Int32)) ((x1 * (10 : Int64)) + ((r_this_digits x3.toNatClampNeg).toInt64)) _ _ _ (by first | exact q_dn hm hv | exact q_dn hm c_2) (by first | exact q_dn32 hv hv | exact q_dn32 hv c_2) hP hD hS (lv_sub hl [0, 1, 2] rfl) hF
  exact L5 (((14 : Int32).toInt + 1).toNat + 1) 14 0 _ _ _ (Nat.lt_succ_self _) (by decide) hP hD hS (lv_sub hl [0, 1, 2] rfl) hF
theorem cv_X1_value : qV yX1_value cX1_value 4 (some .long) 0 := ⟨kc_X1_value, kt_X1_value, ks_X1_value, kn_X1, by decide, by decide +kernel⟩
