
def f_X7_byteOf (p1 : Int64) (p2 : Int32) : Int32 := ((((p1.toUInt64 >>> (((8 : Int32) * p2).toInt64.toUInt64 &&& Int64.toUInt64 63)).toInt64).toInt32) &&& (255 : Int32))
set_option linter.all false in
set_option maxHeartbeats 4000000 in
set_option maxRecDepth 100000 in
theorem c_X7_byteOf (l : Launch) (D : va_G) (p1 : Int64) (p2 : Int32) : CtI l yX7_byteOf cX7_byteOf 3 (some .int) { frames := 0, cells := 0, slots := 0, locals := 0 } D [.long p1, .int p2] [] [] (fun (r : Int32) (u : Int32) => f_X7_byteOf p1 p2 = u ∧ r = u) (fun u => []) := by
  refine CtI.of (by decide) (Nat.le_of_ble_eq_true rfl) ?_
  intro p e s m below meth c A ls Q hE hP hD hS hl hQ
  obtain ⟨hx, hb, hml, hown, ht, hN, hK, hA⟩ := hE
  have hown : s.vm.findClass RX7 = some m.cls := hown
  have hl : lv_has ls 3 [(0, .long p1), (2, .int p2)] := hl
  obtain ⟨F, hF⟩ : ∃ F, f_X7_byteOf p1 p2 = F := ⟨_, rfl⟩
  rw [hF] at hQ
  unfold f_X7_byteOf at hF
  refine lv_lload_n hx hb dX7_byteOf_0 rfl (lv_at hl 0 rfl) ?_
  refine lv_bipush (v := 8) hx hb dX7_byteOf_1 (by decide) ?_
  refine lv_iload_n hx hb dX7_byteOf_3 rfl (lv_at hl 1 rfl) ?_
  refine lv_imul hx hb dX7_byteOf_4 ?_
  refine lv_lushr hx hb dX7_byteOf_5 rfl ?_
  refine lv_l2i hx hb dX7_byteOf_6 rfl ?_
  refine lv_sipush (v := 255) hx hb dX7_byteOf_7 (by decide) ?_
  refine lv_iand hx hb dX7_byteOf_10 ?_
  exact hQ ((((p1.toUInt64 >>> (((8 : Int32) * p2).toInt64.toUInt64 &&& Int64.toUInt64 63)).toInt64).toInt32) &&& (255 : Int32)) ((((p1.toUInt64 >>> (((8 : Int32) * p2).toInt64.toUInt64 &&& Int64.toUInt64 63)).toInt64).toInt32) &&& (255 : Int32)) _ _ _ _ dX7_byteOf_11 ⟨hF.symm, rfl⟩ hP hD hS
theorem cv_X7_byteOf : qS yX7_byteOf cX7_byteOf 3 (some .int) 2 := ⟨kc_X7_byteOf, kt_X7_byteOf, kn_X7, by decide, by decide +kernel⟩
def f_X7_order (p1 : Int64) (p2 : Int64) : Int32 := (if (lg_cmp p1 p2) = 0 then 0 else (if 0 ≤ (lg_cmp p1 p2) then 2 else 1))
set_option linter.all false in
set_option maxHeartbeats 4000000 in
set_option maxRecDepth 100000 in
theorem c_X7_order (l : Launch) (D : va_G) (p1 : Int64) (p2 : Int64) : CtI l yX7_order cX7_order 4 (some .int) { frames := 0, cells := 0, slots := 0, locals := 0 } D [.long p1, .long p2] [] [] (fun (r : Int32) (u : Int32) => f_X7_order p1 p2 = u ∧ r = u) (fun u => []) := by
  refine CtI.of (by decide) (Nat.le_of_ble_eq_true rfl) ?_
  intro p e s m below meth c A ls Q hE hP hD hS hl hQ
  obtain ⟨hx, hb, hml, hown, ht, hN, hK, hA⟩ := hE
  have hown : s.vm.findClass RX7 = some m.cls := hown
  have hl : lv_has ls 4 [(0, .long p1), (2, .long p2)] := hl
  obtain ⟨F, hF⟩ : ∃ F, f_X7_order p1 p2 = F := ⟨_, rfl⟩
  rw [hF] at hQ
  unfold f_X7_order at hF
  refine lv_lload_n hx hb dX7_order_0 rfl (lv_at hl 0 rfl) ?_
  refine lv_lload_n hx hb dX7_order_1 rfl (lv_at hl 1 rfl) ?_
  refine W.lcmp hx hb dX7_order_2 ?_
  refine lv_if_ne (tgt := 8) hx hb dX7_order_3 (by decide) (fun c_1 => ?_) (fun c_1 => ?_)
  · skip
    rw [if_neg c_1] at hF
    refine lv_lload_n hx hb dX7_order_8 rfl (lv_at hl 0 rfl) ?_
    refine lv_lload_n hx hb dX7_order_9 rfl (lv_at hl 1 rfl) ?_
    refine W.lcmp hx hb dX7_order_10 ?_
    refine lv_if_ge (tgt := 18) hx hb dX7_order_11 (by decide) (fun c_2 => ?_) (fun c_2 => ?_)
    · skip
      rw [if_pos c_2] at hF
      refine lv_iconst (v := 2) hx hb dX7_order_18 (by decide) ?_
      exact hQ 2 2 _ _ _ _ dX7_order_19 ⟨hF.symm, rfl⟩ hP hD hS
    · skip
      rw [if_neg c_2] at hF
      refine lv_iconst (v := 1) hx hb dX7_order_14 (by decide) ?_
      refine lv_goto (tgt := 19) hx hb dX7_order_15 (by decide) ?_
      exact hQ 1 1 _ _ _ _ dX7_order_19 ⟨hF.symm, rfl⟩ hP hD hS
  · skip
    rw [if_pos c_1] at hF
    refine lv_iconst (v := 0) hx hb dX7_order_6 (by decide) ?_
    exact hQ 0 0 _ _ _ _ dX7_order_7 ⟨hF.symm, rfl⟩ hP hD hS
theorem cv_X7_order : qS yX7_order cX7_order 4 (some .int) 2 := ⟨kc_X7_order, kt_X7_order, kn_X7, by decide, by decide +kernel⟩
def f_X6_holds (p1 : Int32) (p2 : Int32) : Bool := (if p1 < 0 then false else (if ((2048 : Int32) - p2) < p1 then false else true))
set_option linter.all false in
set_option maxHeartbeats 4000000 in
set_option maxRecDepth 100000 in
theorem c_X6_holds (l : Launch) (D : va_G) (p1 : Int32) (p2 : Int32) : CtI l yX6_holds cX6_holds 2 (some .boolean) { frames := 0, cells := 0, slots := 0, locals := 0 } D [.int p1, .int p2] [] [] (fun (r : Int32) (u : Bool) => f_X6_holds p1 p2 = u ∧ r = bI u) (fun u => []) := by
  refine CtI.ofZ (by decide) (Nat.le_of_ble_eq_true rfl) ?_
  intro p e s m below meth c A ls Q hE hP hD hS hl hQ
  obtain ⟨hx, hb, hml, hown, ht, hN, hK, hA⟩ := hE
  have hown : s.vm.findClass RX6 = some m.cls := hown
  have hl : lv_has ls 2 [(0, .int p1), (1, .int p2)] := hl
  obtain ⟨F, hF⟩ : ∃ F, f_X6_holds p1 p2 = F := ⟨_, rfl⟩
  rw [hF] at hQ
  unfold f_X6_holds at hF
  refine lv_iload_n hx hb dX6_holds_0 rfl (lv_at hl 0 rfl) ?_
  refine lv_if_lt (tgt := 17) hx hb dX6_holds_1 (by decide) (fun c_1 => ?_) (fun c_1 => ?_)
  · skip
    rw [if_pos c_1] at hF
    refine lv_iconst (v := 0) hx hb dX6_holds_17 (by decide) ?_
    exact hQ false false _ _ _ _ dX6_holds_18 ⟨hF.symm, rfl⟩ hP hD hS
  · skip
    rw [if_neg c_1] at hF
    refine lv_iload_n hx hb dX6_holds_4 rfl (lv_at hl 0 rfl) ?_
    refine lv_sipush (v := 2048) hx hb dX6_holds_5 (by decide) ?_
    refine lv_iload_n hx hb dX6_holds_8 rfl (lv_at hl 1 rfl) ?_
    refine lv_isub hx hb dX6_holds_9 ?_
    refine lv_icmp_gt (tgt := 17) hx hb dX6_holds_10 (by decide) (fun c_2 => ?_) (fun c_2 => ?_)
    · skip
      rw [if_pos c_2] at hF
      refine lv_iconst (v := 0) hx hb dX6_holds_17 (by decide) ?_
      exact hQ false false _ _ _ _ dX6_holds_18 ⟨hF.symm, rfl⟩ hP hD hS
    · skip
      rw [if_neg c_2] at hF
      refine lv_iconst (v := 1) hx hb dX6_holds_13 (by decide) ?_
      refine lv_goto (tgt := 18) hx hb dX6_holds_14 (by decide) ?_
      exact hQ true true _ _ _ _ dX6_holds_18 ⟨hF.symm, rfl⟩ hP hD hS
theorem cv_X6_holds : qS yX6_holds cX6_holds 2 (some .boolean) 2 := ⟨kc_X6_holds, kt_X6_holds, kn_X6, by decide, by decide +kernel⟩
def f_X6_byteAt (r_this_bytes : Nat → Int32) (p1 : Int32) : Int32 := (if p1 < 0 then 0 else (if (2048 : Int32) ≤ p1 then 0 else ((r_this_bytes p1.toNatClampNeg) &&& (255 : Int32))))
set_option linter.all false in
set_option maxHeartbeats 4000000 in
set_option maxRecDepth 100000 in
theorem c_X6_byteAt (l : Launch) (D : va_G) (a_this a_this_bytes a_this_keys : Nat) (k_this_bytes : ClassId) (r_this_bytes : Nat → Int32) (p1 : Int32) : CtI l yX6_byteAt cX6_byteAt 2 (some .int) { frames := 0, cells := 0, slots := 0, locals := 0 } D [.ref a_this, .int p1] [(a_this, oX6 a_this_bytes a_this_keys), (a_this_bytes, .inl (k_this_bytes, 2048, .inl r_this_bytes))] [(k_this_bytes, .byte)] (fun (r : Int32) (u : Int32) => f_X6_byteAt r_this_bytes p1 = u ∧ r = u) (fun u => [(a_this, oX6 a_this_bytes a_this_keys), (a_this_bytes, .inl (k_this_bytes, 2048, .inl r_this_bytes))]) := by
  refine CtI.of (by decide) (Nat.le_of_ble_eq_true rfl) ?_
  intro p e s m below meth c A ls Q hE hP hD hS hl hQ
  obtain ⟨hx, hb, hml, hown, ht, hN, hK, hA⟩ := hE
  have hown : s.vm.findClass RX6 = some m.cls := hown
  have hl : lv_has ls 2 [(0, .ref a_this), (1, .int p1)] := hl
  obtain ⟨F, hF⟩ : ∃ F, f_X6_byteAt r_this_bytes p1 = F := ⟨_, rfl⟩
  rw [hF] at hQ
  unfold f_X6_byteAt at hF
  refine lv_iload_n hx hb dX6_byteAt_0 rfl (lv_at hl 1 rfl) ?_
  refine lv_if_lt (tgt := 24) hx hb dX6_byteAt_1 (by decide) (fun c_1 => ?_) (fun c_1 => ?_)
  · skip
    rw [if_pos c_1] at hF
    refine lv_iconst (v := 0) hx hb dX6_byteAt_24 (by decide) ?_
    exact hQ 0 0 _ _ _ _ dX6_byteAt_25 ⟨hF.symm, rfl⟩ hP hD hS
  · skip
    rw [if_neg c_1] at hF
    refine lv_iload_n hx hb dX6_byteAt_4 rfl (lv_at hl 1 rfl) ?_
    refine lv_sipush (v := 2048) hx hb dX6_byteAt_5 (by decide) ?_
    refine lv_icmp_ge (tgt := 24) hx hb dX6_byteAt_8 (by decide) (fun c_2 => ?_) (fun c_2 => ?_)
    · skip
      rw [if_pos c_2] at hF
      refine lv_iconst (v := 0) hx hb dX6_byteAt_24 (by decide) ?_
      exact hQ 0 0 _ _ _ _ dX6_byteAt_25 ⟨hF.symm, rfl⟩ hP hD hS
    · skip
      rw [if_neg c_2] at hF
      refine lv_aload_n hx hb dX6_byteAt_11 rfl (lv_at hl 0 rfl) ?_
      refine gf_X6_9 (v := .ref a_this_bytes) hx hb hown ht hK hP 0 rfl rfl dX6_byteAt_12 ?_
      refine lv_iload_n hx hb dX6_byteAt_15 rfl (lv_at hl 1 rfl) ?_
      refine va_bald hx hb hK hP 1 0 rfl rfl (q_in c_1 c_2 (by decide)) dX6_byteAt_16 ?_
      refine lv_sipush (v := 255) hx hb dX6_byteAt_17 (by decide) ?_
      refine lv_iand hx hb dX6_byteAt_20 ?_
      refine lv_goto (tgt := 25) hx hb dX6_byteAt_21 (by decide) ?_
      exact hQ ((r_this_bytes p1.toNatClampNeg) &&& (255 : Int32)) ((r_this_bytes p1.toNatClampNeg) &&& (255 : Int32)) _ _ _ _ dX6_byteAt_25 ⟨hF.symm, rfl⟩ hP hD hS
theorem cv_X6_byteAt : qV yX6_byteAt cX6_byteAt 2 (some .int) 1 := ⟨kc_X6_byteAt, kt_X6_byteAt, ks_X6_byteAt, kn_X6, by decide, by decide +kernel⟩
def f_X6_putByte (r_this_bytes : Nat → Int32) (p1 : Int32) (p2 : Int32) : Nat → Int32 := (if p1 < 0 then r_this_bytes else (if (2048 : Int32) ≤ p1 then r_this_bytes else (upd r_this_bytes p1.toNatClampNeg (vp_nar .byte p2.toInt8.toInt32))))
set_option linter.all false in
set_option maxHeartbeats 4000000 in
set_option maxRecDepth 100000 in
theorem c_X6_putByte (l : Launch) (D : va_G) (a_this a_this_bytes a_this_keys : Nat) (k_this_bytes : ClassId) (r_this_bytes : Nat → Int32) (p1 : Int32) (p2 : Int32) : CtV l yX6_putByte cX6_putByte 3 none { frames := 0, cells := 0, slots := 0, locals := 0 } D [.ref a_this, .int p1, .int p2] [(a_this, oX6 a_this_bytes a_this_keys), (a_this_bytes, .inl (k_this_bytes, 2048, .inl r_this_bytes))] [(k_this_bytes, .byte)] (fun (u : Nat → Int32) => f_X6_putByte r_this_bytes p1 p2 = u) (fun u => [(a_this, oX6 a_this_bytes a_this_keys), (a_this_bytes, .inl (k_this_bytes, 2048, .inl u))]) := by
  refine CtV.of (by decide) (Nat.le_of_ble_eq_true rfl) ?_
  intro p e s m below meth c A ls Q hE hP hD hS hl hQ
  obtain ⟨hx, hb, hml, hown, ht, hN, hK, hA⟩ := hE
  have hown : s.vm.findClass RX6 = some m.cls := hown
  have hl : lv_has ls 3 [(0, .ref a_this), (1, .int p1), (2, .int p2)] := hl
  obtain ⟨F, hF⟩ : ∃ F, f_X6_putByte r_this_bytes p1 p2 = F := ⟨_, rfl⟩
  rw [hF] at hQ
  unfold f_X6_putByte at hF
  refine lv_iload_n hx hb dX6_putByte_0 rfl (lv_at hl 1 rfl) ?_
  refine lv_if_lt (tgt := 19) hx hb dX6_putByte_1 (by decide) (fun c_1 => ?_) (fun c_1 => ?_)
  · skip
    rw [if_pos c_1] at hF
    exact hQ r_this_bytes _ _ _ _ dX6_putByte_19 hF.symm hP hD hS
  · skip
    rw [if_neg c_1] at hF
    refine lv_iload_n hx hb dX6_putByte_4 rfl (lv_at hl 1 rfl) ?_
    refine lv_sipush (v := 2048) hx hb dX6_putByte_5 (by decide) ?_
    refine lv_icmp_ge (tgt := 19) hx hb dX6_putByte_8 (by decide) (fun c_2 => ?_) (fun c_2 => ?_)
    · skip
      rw [if_pos c_2] at hF
      exact hQ r_this_bytes _ _ _ _ dX6_putByte_19 hF.symm hP hD hS
    · skip
      rw [if_neg c_2] at hF
      refine lv_aload_n hx hb dX6_putByte_11 rfl (lv_at hl 0 rfl) ?_
      refine gf_X6_9 (v := .ref a_this_bytes) hx hb hown ht hK hP 0 rfl rfl dX6_putByte_12 ?_
      refine lv_iload_n hx hb dX6_putByte_15 rfl (lv_at hl 1 rfl) ?_
      refine lv_iload_n hx hb dX6_putByte_16 rfl (lv_at hl 2 rfl) ?_
      refine lv_i2b hx hb dX6_putByte_17 rfl ?_
      refine va_bast hx hb hK hP hD hS 1 0 rfl rfl (q_in c_1 c_2 (by decide)) dX6_putByte_18 (fun H locs hP hD hS => ?_)
      have hP : va_P D vwCl [(a_this, oX6 a_this_bytes a_this_keys), (a_this_bytes, .inl (k_this_bytes, 2048, .inl (upd r_this_bytes p1.toNatClampNeg (vp_nar .byte p2.toInt8.toInt32))))] H := hP
      have hD : va_D A [(a_this, oX6 a_this_bytes a_this_keys), (a_this_bytes, .inl (k_this_bytes, 2048, .inl (upd r_this_bytes p1.toNatClampNeg (vp_nar .byte p2.toInt8.toInt32))))] := hD
      exact hQ (upd r_this_bytes p1.toNatClampNeg (vp_nar .byte p2.toInt8.toInt32)) _ _ _ _ dX6_putByte_19 hF.symm hP hD hS
theorem cv_X6_putByte : qV yX6_putByte cX6_putByte 3 none 2 := ⟨kc_X6_putByte, kt_X6_putByte, ks_X6_putByte, kn_X6, by decide, by decide +kernel⟩
def f_X6_halfAt (r_this_bytes : Nat → Int32) (p1 : Int32) : Int32 := (((f_X6_byteAt r_this_bytes p1) <<< ((8 : Int32) &&& 31)) ||| (f_X6_byteAt r_this_bytes (p1 + (1 : Int32))))
set_option linter.all false in
set_option maxHeartbeats 4000000 in
set_option maxRecDepth 100000 in
theorem c_X6_halfAt (l : Launch) (D : va_G) (a_this a_this_bytes a_this_keys : Nat) (k_this_bytes : ClassId) (r_this_bytes : Nat → Int32) (p1 : Int32) : CtI l yX6_halfAt cX6_halfAt 2 (some .int) { frames := 1, cells := 0, slots := 0, locals := 21 } D [.ref a_this, .int p1] [(a_this, oX6 a_this_bytes a_this_keys), (a_this_bytes, .inl (k_this_bytes, 2048, .inl r_this_bytes))] [(k_this_bytes, .byte)] (fun (r : Int32) (u : Int32) => f_X6_halfAt r_this_bytes p1 = u ∧ r = u) (fun u => [(a_this, oX6 a_this_bytes a_this_keys), (a_this_bytes, .inl (k_this_bytes, 2048, .inl r_this_bytes))]) := by
  refine CtI.of (by decide) (Nat.le_of_ble_eq_true rfl) ?_
  intro p e s m below meth c A ls Q hE hP hD hS hl hQ
  obtain ⟨hx, hb, hml, hown, ht, hN, hK, hA⟩ := hE
  have hown : s.vm.findClass RX6 = some m.cls := hown
  have hl : lv_has ls 2 [(0, .ref a_this), (1, .int p1)] := hl
  obtain ⟨F, hF⟩ : ∃ F, f_X6_halfAt r_this_bytes p1 = F := ⟨_, rfl⟩
  rw [hF] at hQ
  unfold f_X6_halfAt at hF
  refine lv_aload_n hx hb dX6_halfAt_0 rfl (lv_at hl 0 rfl) ?_
  refine lv_iload_n hx hb dX6_halfAt_1 rfl (lv_at hl 1 rfl) ?_
  refine q_Vi (rest := []) (c_X6_byteAt l D a_this a_this_bytes a_this_keys k_this_bytes r_this_bytes p1) cv_X6_byteAt hx hb hml hown ht hN hK hA hP hD hS hl.1 (km_X6_19) ⟨Nat.le_of_ble_eq_true rfl, Nat.le_of_ble_eq_true rfl⟩ rfl rfl [0, 1] (by decide) rfl [0] rfl (fun _ => rfl) (ci := 6) rfl rfl rfl rfl rfl (Nat.le_of_ble_eq_true rfl) dX6_halfAt_2 ⟨Nat.zero_le _, Nat.zero_le _⟩ (fun r u H locs hw hP hD hS => ?_)
  obtain ⟨rfl, rfl⟩ := hw
  have hP : va_P D vwCl [(a_this, oX6 a_this_bytes a_this_keys), (a_this_bytes, .inl (k_this_bytes, 2048, .inl r_this_bytes))] H := hP
  have hD : va_D A [(a_this, oX6 a_this_bytes a_this_keys), (a_this_bytes, .inl (k_this_bytes, 2048, .inl r_this_bytes))] := hD
  refine lv_bipush (v := 8) hx hb dX6_halfAt_5 (by decide) ?_
  refine lv_ishl hx hb dX6_halfAt_7 ?_
  refine lv_aload_n hx hb dX6_halfAt_8 rfl (lv_at hl 0 rfl) ?_
  refine lv_iload_n hx hb dX6_halfAt_9 rfl (lv_at hl 1 rfl) ?_
  refine lv_iconst (v := 1) hx hb dX6_halfAt_10 (by decide) ?_
  refine lv_iadd hx hb dX6_halfAt_11 ?_
  refine q_Vi (rest := [.int ((f_X6_byteAt r_this_bytes p1) <<< ((8 : Int32) &&& 31))]) (c_X6_byteAt l D a_this a_this_bytes a_this_keys k_this_bytes r_this_bytes (p1 + (1 : Int32))) cv_X6_byteAt hx hb hml hown ht hN hK hA hP hD hS hl.1 (km_X6_19) ⟨Nat.le_of_ble_eq_true rfl, Nat.le_of_ble_eq_true rfl⟩ rfl rfl [0, 1] (by decide) rfl [0] rfl (fun _ => rfl) (ci := 6) rfl rfl rfl rfl rfl (Nat.le_of_ble_eq_true rfl) dX6_halfAt_12 ⟨Nat.zero_le _, Nat.zero_le _⟩ (fun r u H locs hw hP hD hS => ?_)
  obtain ⟨rfl, rfl⟩ := hw
  have hP : va_P D vwCl [(a_this, oX6 a_this_bytes a_this_keys), (a_this_bytes, .inl (k_this_bytes, 2048, .inl r_this_bytes))] H := hP
  have hD : va_D A [(a_this, oX6 a_this_bytes a_this_keys), (a_this_bytes, .inl (k_this_bytes, 2048, .inl r_this_bytes))] := hD
  refine lv_ior hx hb dX6_halfAt_15 ?_
  exact hQ (((f_X6_byteAt r_this_bytes p1) <<< ((8 : Int32) &&& 31)) ||| (f_X6_byteAt r_this_bytes (p1 + (1 : Int32)))) (((f_X6_byteAt r_this_bytes p1) <<< ((8 : Int32) &&& 31)) ||| (f_X6_byteAt r_this_bytes (p1 + (1 : Int32)))) _ _ _ _ dX6_halfAt_16 ⟨hF.symm, rfl⟩ hP hD hS
theorem cv_X6_halfAt : qV yX6_halfAt cX6_halfAt 2 (some .int) 1 := ⟨kc_X6_halfAt, kt_X6_halfAt, ks_X6_halfAt, kn_X6, by decide, by decide +kernel⟩
def f_X6_wordAt_L4 (r_this_bytes : Nat → Int32) (p1 : Int32) : Nat → Int32 → Int32 → Int32
  | 0, x3, x2 => 0
  | fuel + 1, x3, x2 => (if (4 : Int32) ≤ x3 then x2 else f_X6_wordAt_L4 r_this_bytes p1 fuel (x3 + (1 : Int32)) ((x2 <<< ((8 : Int32) &&& 31)) ||| (f_X6_byteAt r_this_bytes (p1 + x3))))
def f_X6_wordAt (r_this_bytes : Nat → Int32) (p1 : Int32) : Int32 := f_X6_wordAt_L4 r_this_bytes p1 (((4 : Int32).toInt - (0 : Int32).toInt).toNat + 1) 0 0
set_option linter.all false in
set_option maxHeartbeats 4000000 in
set_option maxRecDepth 100000 in
theorem c_X6_wordAt (l : Launch) (D : va_G) (a_this a_this_bytes a_this_keys : Nat) (k_this_bytes : ClassId) (r_this_bytes : Nat → Int32) (p1 : Int32) : CtI l yX6_wordAt cX6_wordAt 4 (some .int) { frames := 1, cells := 0, slots := 0, locals := 21 } D [.ref a_this, .int p1] [(a_this, oX6 a_this_bytes a_this_keys), (a_this_bytes, .inl (k_this_bytes, 2048, .inl r_this_bytes))] [(k_this_bytes, .byte)] (fun (r : Int32) (u : Int32) => f_X6_wordAt r_this_bytes p1 = u ∧ r = u) (fun u => [(a_this, oX6 a_this_bytes a_this_keys), (a_this_bytes, .inl (k_this_bytes, 2048, .inl r_this_bytes))]) := by
  refine CtI.of (by decide) (Nat.le_of_ble_eq_true rfl) ?_
  intro p e s m below meth c A ls Q hE hP hD hS hl hQ
  obtain ⟨hx, hb, hml, hown, ht, hN, hK, hA⟩ := hE
  have hown : s.vm.findClass RX6 = some m.cls := hown
  have hl : lv_has ls 4 [(0, .ref a_this), (1, .int p1)] := hl
  obtain ⟨F, hF⟩ : ∃ F, f_X6_wordAt r_this_bytes p1 = F := ⟨_, rfl⟩
  rw [hF] at hQ
  unfold f_X6_wordAt at hF
  refine lv_iconst (v := 0) hx hb dX6_wordAt_0 (by decide) ?_
  refine lv_istore_n (lv' := [(2, .int 0), (0, .ref a_this), (1, .int p1)]) hx hb dX6_wordAt_1 rfl hl (by decide) rfl (fun ls hl => ?_)
  refine lv_iconst (v := 0) hx hb dX6_wordAt_2 (by decide) ?_
  refine lv_istore_n (lv' := [(3, .int 0), (2, .int 0), (0, .ref a_this), (1, .int p1)]) hx hb dX6_wordAt_3 rfl hl (by decide) rfl (fun ls hl => ?_)
  have L4 : ∀ (fuel : Nat) (x3 : Int32) (x2 : Int32) (H : Heap) (locs : List Loc) (ls : Array Slot), ((4 : Int32).toInt - (x3 : Int32).toInt).toNat < fuel → va_P D vwCl [(a_this, oX6 a_this_bytes a_this_keys), (a_this_bytes, .inl (k_this_bytes, 2048, .inl r_this_bytes))] H → va_D A [(a_this, oX6 a_this_bytes a_this_keys), (a_this_bytes, .inl (k_this_bytes, 2048, .inl r_this_bytes))] → va_S A s.heap H locs → lv_has ls 4 [(3, .int x3), (2, .int x2), (0, .ref a_this), (1, .int p1)] → f_X6_wordAt_L4 r_this_bytes p1 fuel x3 x2 = F → W p l e ({ frames := 1, cells := 0, slots := 0, locals := 21 } : Room) s m ([.ref a_this, .int p1] : List Value).toArray below meth c H locs 0 0 Q (F0 m 4 ls []) := by
    intro fuel
    induction fuel with
    | zero => intro x3 x2 H locs ls hm; exact absurd hm (Nat.not_lt_zero _)
    | succ fuel ih =>
      intro x3 x2 H locs ls hm  hP hD hS hl hF
      rw [f_X6_wordAt_L4] at hF
      skip
      refine lv_iload_n hx hb dX6_wordAt_4 rfl (lv_at hl 0 rfl) ?_
      refine lv_iconst (v := 4) hx hb dX6_wordAt_5 (by decide) ?_
      refine lv_icmp_ge (tgt := 28) hx hb dX6_wordAt_6 (by decide) (fun c_2 => ?_) (fun c_2 => ?_)
      · skip
        rw [if_pos c_2] at hF
        refine lv_iload_n hx hb dX6_wordAt_28 rfl (lv_at hl 1 rfl) ?_
        exact hQ x2 x2 _ _ _ _ dX6_wordAt_29 ⟨hF.symm, rfl⟩ hP hD hS
      · skip
        rw [if_neg c_2] at hF
        refine lv_iload_n hx hb dX6_wordAt_9 rfl (lv_at hl 1 rfl) ?_
        refine lv_bipush (v := 8) hx hb dX6_wordAt_10 (by decide) ?_
        refine lv_ishl hx hb dX6_wordAt_12 ?_
        refine lv_aload_n hx hb dX6_wordAt_13 rfl (lv_at hl 2 rfl) ?_
        refine lv_iload_n hx hb dX6_wordAt_14 rfl (lv_at hl 3 rfl) ?_
        refine lv_iload_n hx hb dX6_wordAt_15 rfl (lv_at hl 0 rfl) ?_
        refine lv_iadd hx hb dX6_wordAt_16 ?_
        refine q_Vi (rest := [.int (x2 <<< ((8 : Int32) &&& 31))]) (c_X6_byteAt l D a_this a_this_bytes a_this_keys k_this_bytes r_this_bytes (p1 + x3)) cv_X6_byteAt hx hb hml hown ht hN hK hA hP hD hS hl.1 (km_X6_19) ⟨Nat.le_of_ble_eq_true rfl, Nat.le_of_ble_eq_true rfl⟩ rfl rfl [0, 1] (by decide) rfl [0] rfl (fun _ => rfl) (ci := 6) rfl rfl rfl rfl rfl (Nat.le_of_ble_eq_true rfl) dX6_wordAt_17 ⟨Nat.zero_le _, Nat.zero_le _⟩ (fun r u H locs hw hP hD hS => ?_)
        obtain ⟨rfl, rfl⟩ := hw
        have hP : va_P D vwCl [(a_this, oX6 a_this_bytes a_this_keys), (a_this_bytes, .inl (k_this_bytes, 2048, .inl r_this_bytes))] H := hP
        have hD : va_D A [(a_this, oX6 a_this_bytes a_this_keys), (a_this_bytes, .inl (k_this_bytes, 2048, .inl r_this_bytes))] := hD
        refine lv_ior hx hb dX6_wordAt_20 ?_
        refine lv_istore_n (lv' := [(2, .int ((x2 <<< ((8 : Int32) &&& 31)) ||| (f_X6_byteAt r_this_bytes (p1 + x3)))), (3, .int x3), (0, .ref a_this), (1, .int p1)]) hx hb dX6_wordAt_21 rfl hl (by decide) rfl (fun ls hl => ?_)
        refine lv_iinc (v := (x3 + (1 : Int32))) (lv' := [(3, .int (x3 + (1 : Int32))), (2, .int ((x2 <<< ((8 : Int32) &&& 31)) ||| (f_X6_byteAt r_this_bytes (p1 + x3)))), (0, .ref a_this), (1, .int p1)]) hx hb dX6_wordAt_22 hl (k := 1) rfl rfl (by decide) rfl (fun ls hl => ?_)
        refine lv_goto (tgt := 4) hx hb dX6_wordAt_25 (by decide) ?_
        exact ih (x3 + (1 : Int32)) ((x2 <<< ((8 : Int32) &&& 31)) ||| (f_X6_byteAt r_this_bytes (p1 + x3))) _ _ _ (by first | exact q_up hm c_2)  hP hD hS (lv_sub hl [0, 1, 2, 3] rfl) hF
  exact L4 (((4 : Int32).toInt - (0 : Int32).toInt).toNat + 1) 0 0 _ _ _ (Nat.lt_succ_self _)  hP hD hS (lv_sub hl [0, 1, 2, 3] rfl) hF
theorem cv_X6_wordAt : qV yX6_wordAt cX6_wordAt 4 (some .int) 1 := ⟨kc_X6_wordAt, kt_X6_wordAt, ks_X6_wordAt, kn_X6, by decide, by decide +kernel⟩
def f_X6_putHalf (r_this_bytes : Nat → Int32) (p1 : Int32) (p2 : Int32) : Nat → Int32 := (q_let (f_X6_putByte r_this_bytes p1 (p2 >>> ((8 : Int32) &&& 31))) fun w_1 => (q_let (f_X6_putByte w_1 (p1 + (1 : Int32)) p2) fun w_2 => w_2))
set_option linter.all false in
set_option maxHeartbeats 4000000 in
set_option maxRecDepth 100000 in
theorem c_X6_putHalf (l : Launch) (D : va_G) (a_this a_this_bytes a_this_keys : Nat) (k_this_bytes : ClassId) (r_this_bytes : Nat → Int32) (p1 : Int32) (p2 : Int32) : CtV l yX6_putHalf cX6_putHalf 3 none { frames := 1, cells := 0, slots := 0, locals := 22 } D [.ref a_this, .int p1, .int p2] [(a_this, oX6 a_this_bytes a_this_keys), (a_this_bytes, .inl (k_this_bytes, 2048, .inl r_this_bytes))] [(k_this_bytes, .byte)] (fun (u : Nat → Int32) => f_X6_putHalf r_this_bytes p1 p2 = u) (fun u => [(a_this, oX6 a_this_bytes a_this_keys), (a_this_bytes, .inl (k_this_bytes, 2048, .inl u))]) := by
  refine CtV.of (by decide) (Nat.le_of_ble_eq_true rfl) ?_
  intro p e s m below meth c A ls Q hE hP hD hS hl hQ
  obtain ⟨hx, hb, hml, hown, ht, hN, hK, hA⟩ := hE
  have hown : s.vm.findClass RX6 = some m.cls := hown
  have hl : lv_has ls 3 [(0, .ref a_this), (1, .int p1), (2, .int p2)] := hl
  obtain ⟨F, hF⟩ : ∃ F, f_X6_putHalf r_this_bytes p1 p2 = F := ⟨_, rfl⟩
  rw [hF] at hQ
  unfold f_X6_putHalf at hF
  refine lv_aload_n hx hb dX6_putHalf_0 rfl (lv_at hl 0 rfl) ?_
  refine lv_iload_n hx hb dX6_putHalf_1 rfl (lv_at hl 1 rfl) ?_
  refine lv_iload_n hx hb dX6_putHalf_2 rfl (lv_at hl 2 rfl) ?_
  refine lv_bipush (v := 8) hx hb dX6_putHalf_3 (by decide) ?_
  refine lv_ishr hx hb dX6_putHalf_5 ?_
  refine q_Vv (rest := []) (c_X6_putByte l D a_this a_this_bytes a_this_keys k_this_bytes r_this_bytes p1 (p2 >>> ((8 : Int32) &&& 31))) cv_X6_putByte hx hb hml hown ht hN hK hA hP hD hS hl.1 (km_X6_23) ⟨Nat.le_of_ble_eq_true rfl, Nat.le_of_ble_eq_true rfl⟩ rfl rfl [0, 1] (by decide) rfl [0] rfl (fun _ => rfl) (ci := 6) rfl rfl rfl rfl rfl (Nat.le_of_ble_eq_true rfl) dX6_putHalf_6 ⟨Nat.zero_le _, Nat.zero_le _⟩ (fun w_1 H locs hw hP hD hS => ?_)
  have hP : va_P D vwCl [(a_this, oX6 a_this_bytes a_this_keys), (a_this_bytes, .inl (k_this_bytes, 2048, .inl w_1))] H := hP
  have hD : va_D A [(a_this, oX6 a_this_bytes a_this_keys), (a_this_bytes, .inl (k_this_bytes, 2048, .inl w_1))] := hD
  rw [q_let_of hw] at hF
  refine lv_aload_n hx hb dX6_putHalf_9 rfl (lv_at hl 0 rfl) ?_
  refine lv_iload_n hx hb dX6_putHalf_10 rfl (lv_at hl 1 rfl) ?_
  refine lv_iconst (v := 1) hx hb dX6_putHalf_11 (by decide) ?_
  refine lv_iadd hx hb dX6_putHalf_12 ?_
  refine lv_iload_n hx hb dX6_putHalf_13 rfl (lv_at hl 2 rfl) ?_
  refine q_Vv (rest := []) (c_X6_putByte l D a_this a_this_bytes a_this_keys k_this_bytes w_1 (p1 + (1 : Int32)) p2) cv_X6_putByte hx hb hml hown ht hN hK hA hP hD hS hl.1 (km_X6_23) ⟨Nat.le_of_ble_eq_true rfl, Nat.le_of_ble_eq_true rfl⟩ rfl rfl [0, 1] (by decide) rfl [0] rfl (fun _ => rfl) (ci := 6) rfl rfl rfl rfl rfl (Nat.le_of_ble_eq_true rfl) dX6_putHalf_14 ⟨Nat.zero_le _, Nat.zero_le _⟩ (fun w_2 H locs hw hP hD hS => ?_)
  have hP : va_P D vwCl [(a_this, oX6 a_this_bytes a_this_keys), (a_this_bytes, .inl (k_this_bytes, 2048, .inl w_2))] H := hP
  have hD : va_D A [(a_this, oX6 a_this_bytes a_this_keys), (a_this_bytes, .inl (k_this_bytes, 2048, .inl w_2))] := hD
  rw [q_let_of hw] at hF
  exact hQ w_2 _ _ _ _ dX6_putHalf_17 hF.symm hP hD hS
theorem cv_X6_putHalf : qV yX6_putHalf cX6_putHalf 3 none 2 := ⟨kc_X6_putHalf, kt_X6_putHalf, ks_X6_putHalf, kn_X6, by decide, by decide +kernel⟩
def f_X6_putWord_L2 (p1 : Int32) (p2 : Int32) : Nat → (Nat → Int32) → Int32 → Nat → Int32
  | 0, r_this_bytes_L2, x3 => r_this_bytes_L2
  | fuel + 1, r_this_bytes_L2, x3 => (if (4 : Int32) ≤ x3 then r_this_bytes_L2 else (q_let (f_X6_putByte r_this_bytes_L2 (p1 + x3) (f_X7_byteOf p2.toInt64 ((3 : Int32) - x3))) fun w_4 => f_X6_putWord_L2 p1 p2 fuel w_4 (x3 + (1 : Int32))))
def f_X6_putWord (r_this_bytes : Nat → Int32) (p1 : Int32) (p2 : Int32) : Nat → Int32 := f_X6_putWord_L2 p1 p2 (((4 : Int32).toInt - (0 : Int32).toInt).toNat + 1) r_this_bytes 0
set_option linter.all false in
set_option maxHeartbeats 4000000 in
set_option maxRecDepth 100000 in
theorem c_X6_putWord (l : Launch) (D : va_G) (a_this a_this_bytes a_this_keys : Nat) (k_this_bytes : ClassId) (r_this_bytes : Nat → Int32) (p1 : Int32) (p2 : Int32) : CtV l yX6_putWord cX6_putWord 4 none { frames := 1, cells := 0, slots := 0, locals := 22 } D [.ref a_this, .int p1, .int p2] [(a_this, oX6 a_this_bytes a_this_keys), (a_this_bytes, .inl (k_this_bytes, 2048, .inl r_this_bytes))] [(k_this_bytes, .byte)] (fun (u : Nat → Int32) => f_X6_putWord r_this_bytes p1 p2 = u) (fun u => [(a_this, oX6 a_this_bytes a_this_keys), (a_this_bytes, .inl (k_this_bytes, 2048, .inl u))]) := by
  refine CtV.of (by decide) (Nat.le_of_ble_eq_true rfl) ?_
  intro p e s m below meth c A ls Q hE hP hD hS hl hQ
  obtain ⟨hx, hb, hml, hown, ht, hN, hK, hA⟩ := hE
  have hown : s.vm.findClass RX6 = some m.cls := hown
  have hl : lv_has ls 4 [(0, .ref a_this), (1, .int p1), (2, .int p2)] := hl
  obtain ⟨F, hF⟩ : ∃ F, f_X6_putWord r_this_bytes p1 p2 = F := ⟨_, rfl⟩
  rw [hF] at hQ
  unfold f_X6_putWord at hF
  refine lv_iconst (v := 0) hx hb dX6_putWord_0 (by decide) ?_
  refine lv_istore_n (lv' := [(3, .int 0), (0, .ref a_this), (1, .int p1), (2, .int p2)]) hx hb dX6_putWord_1 rfl hl (by decide) rfl (fun ls hl => ?_)
  have L2 : ∀ (fuel : Nat) (r_this_bytes_L2 : Nat → Int32) (x3 : Int32) (H : Heap) (locs : List Loc) (ls : Array Slot), ((4 : Int32).toInt - (x3 : Int32).toInt).toNat < fuel → va_P D vwCl [(a_this, oX6 a_this_bytes a_this_keys), (a_this_bytes, .inl (k_this_bytes, 2048, .inl r_this_bytes_L2))] H → va_D A [(a_this, oX6 a_this_bytes a_this_keys), (a_this_bytes, .inl (k_this_bytes, 2048, .inl r_this_bytes_L2))] → va_S A s.heap H locs → lv_has ls 4 [(3, .int x3), (0, .ref a_this), (1, .int p1), (2, .int p2)] → f_X6_putWord_L2 p1 p2 fuel r_this_bytes_L2 x3 = F → W p l e ({ frames := 1, cells := 0, slots := 0, locals := 22 } : Room) s m ([.ref a_this, .int p1, .int p2] : List Value).toArray below meth c H locs 0 0 Q (F0 m 2 ls []) := by
    intro fuel
    induction fuel with
    | zero => intro r_this_bytes_L2 x3 H locs ls hm; exact absurd hm (Nat.not_lt_zero _)
    | succ fuel ih =>
      intro r_this_bytes_L2 x3 H locs ls hm  hP hD hS hl hF
      rw [f_X6_putWord_L2] at hF
      skip
      refine lv_iload_n hx hb dX6_putWord_2 rfl (lv_at hl 0 rfl) ?_
      refine lv_iconst (v := 4) hx hb dX6_putWord_3 (by decide) ?_
      refine lv_icmp_ge (tgt := 28) hx hb dX6_putWord_4 (by decide) (fun c_2 => ?_) (fun c_2 => ?_)
      · skip
        rw [if_pos c_2] at hF
        exact hQ r_this_bytes_L2 _ _ _ _ dX6_putWord_28 hF.symm hP hD hS
      · skip
        rw [if_neg c_2] at hF
        refine lv_aload_n hx hb dX6_putWord_7 rfl (lv_at hl 1 rfl) ?_
        refine lv_iload_n hx hb dX6_putWord_8 rfl (lv_at hl 2 rfl) ?_
        refine lv_iload_n hx hb dX6_putWord_9 rfl (lv_at hl 0 rfl) ?_
        refine lv_iadd hx hb dX6_putWord_10 ?_
        refine lv_iload_n hx hb dX6_putWord_11 rfl (lv_at hl 3 rfl) ?_
        refine lv_i2l hx hb dX6_putWord_12 rfl ?_
        refine lv_iconst (v := 3) hx hb dX6_putWord_13 (by decide) ?_
        refine lv_iload_n hx hb dX6_putWord_14 rfl (lv_at hl 0 rfl) ?_
        refine lv_isub hx hb dX6_putWord_15 ?_
        refine q_Ni (rest := [.int (p1 + x3), .ref a_this]) (c_X7_byteOf l D p2.toInt64 ((3 : Int32) - x3)) cv_X7_byteOf hx hb hml hown ht hN hK hA hP hD hS hl.1 (hN.2.1) ⟨Nat.le_of_ble_eq_true rfl, Nat.le_of_ble_eq_true rfl⟩ rfl rfl [] (by decide) rfl [] rfl (fun _ => rfl) rfl rfl (Nat.le_of_ble_eq_true rfl) dX6_putWord_16 ⟨Nat.zero_le _, Nat.zero_le _⟩ (fun r u H locs hw hP hD hS => ?_)
        obtain ⟨rfl, rfl⟩ := hw
        have hP : va_P D vwCl [(a_this, oX6 a_this_bytes a_this_keys), (a_this_bytes, .inl (k_this_bytes, 2048, .inl r_this_bytes_L2))] H := hP
        have hD : va_D A [(a_this, oX6 a_this_bytes a_this_keys), (a_this_bytes, .inl (k_this_bytes, 2048, .inl r_this_bytes_L2))] := hD
        refine q_Vv (rest := []) (c_X6_putByte l D a_this a_this_bytes a_this_keys k_this_bytes r_this_bytes_L2 (p1 + x3) (f_X7_byteOf p2.toInt64 ((3 : Int32) - x3))) cv_X6_putByte hx hb hml hown ht hN hK hA hP hD hS hl.1 (km_X6_23) ⟨Nat.le_of_ble_eq_true rfl, Nat.le_of_ble_eq_true rfl⟩ rfl rfl [0, 1] (by decide) rfl [0] rfl (fun _ => rfl) (ci := 6) rfl rfl rfl rfl rfl (Nat.le_of_ble_eq_true rfl) dX6_putWord_19 ⟨Nat.zero_le _, Nat.zero_le _⟩ (fun w_4 H locs hw hP hD hS => ?_)
        have hP : va_P D vwCl [(a_this, oX6 a_this_bytes a_this_keys), (a_this_bytes, .inl (k_this_bytes, 2048, .inl w_4))] H := hP
        have hD : va_D A [(a_this, oX6 a_this_bytes a_this_keys), (a_this_bytes, .inl (k_this_bytes, 2048, .inl w_4))] := hD
        rw [q_let_of hw] at hF
        refine lv_iinc (v := (x3 + (1 : Int32))) (lv' := [(3, .int (x3 + (1 : Int32))), (0, .ref a_this), (1, .int p1), (2, .int p2)]) hx hb dX6_putWord_22 hl (k := 0) rfl rfl (by decide) rfl (fun ls hl => ?_)
        refine lv_goto (tgt := 2) hx hb dX6_putWord_25 (by decide) ?_
        exact ih w_4 (x3 + (1 : Int32)) _ _ _ (by first | exact q_up hm c_2)  hP hD hS (lv_sub hl [0, 1, 2, 3] rfl) hF
  exact L2 (((4 : Int32).toInt - (0 : Int32).toInt).toNat + 1) r_this_bytes 0 _ _ _ (Nat.lt_succ_self _)  hP hD hS (lv_sub hl [0, 1, 2, 3] rfl) hF
theorem cv_X6_putWord : qV yX6_putWord cX6_putWord 4 none 2 := ⟨kc_X6_putWord, kt_X6_putWord, ks_X6_putWord, kn_X6, by decide, by decide +kernel⟩
def f_X6_keyOfBlock (r_this_keys : Nat → Int32) (p1 : Int32) : Int32 := (r_this_keys (p1 &&& (7 : Int32)).toNatClampNeg)
set_option linter.all false in
set_option maxHeartbeats 4000000 in
set_option maxRecDepth 100000 in
theorem c_X6_keyOfBlock (l : Launch) (D : va_G) (a_this a_this_keys a_this_bytes : Nat) (k_this_keys : ClassId) (r_this_keys : Nat → Int32) (p1 : Int32) : CtI l yX6_keyOfBlock cX6_keyOfBlock 2 (some .int) { frames := 0, cells := 0, slots := 0, locals := 0 } D [.ref a_this, .int p1] [(a_this, oX6 a_this_bytes a_this_keys), (a_this_keys, .inl (k_this_keys, 8, .inl r_this_keys))] [(k_this_keys, .int)] (fun (r : Int32) (u : Int32) => f_X6_keyOfBlock r_this_keys p1 = u ∧ r = u) (fun u => [(a_this, oX6 a_this_bytes a_this_keys), (a_this_keys, .inl (k_this_keys, 8, .inl r_this_keys))]) := by
  refine CtI.of (by decide) (Nat.le_of_ble_eq_true rfl) ?_
  intro p e s m below meth c A ls Q hE hP hD hS hl hQ
  obtain ⟨hx, hb, hml, hown, ht, hN, hK, hA⟩ := hE
  have hown : s.vm.findClass RX6 = some m.cls := hown
  have hl : lv_has ls 2 [(0, .ref a_this), (1, .int p1)] := hl
  obtain ⟨F, hF⟩ : ∃ F, f_X6_keyOfBlock r_this_keys p1 = F := ⟨_, rfl⟩
  rw [hF] at hQ
  unfold f_X6_keyOfBlock at hF
  refine lv_aload_n hx hb dX6_keyOfBlock_0 rfl (lv_at hl 0 rfl) ?_
  refine gf_X6_15 (v := .ref a_this_keys) hx hb hown ht hK hP 0 rfl rfl dX6_keyOfBlock_1 ?_
  refine lv_iload_n hx hb dX6_keyOfBlock_4 rfl (lv_at hl 1 rfl) ?_
  refine lv_bipush (v := 7) hx hb dX6_keyOfBlock_5 (by decide) ?_
  refine lv_iand hx hb dX6_keyOfBlock_7 ?_
  refine va_iald hx hb hK hP 1 0 rfl rfl (q_in8 _) dX6_keyOfBlock_8 ?_
  exact hQ (r_this_keys (p1 &&& (7 : Int32)).toNatClampNeg) (r_this_keys (p1 &&& (7 : Int32)).toNatClampNeg) _ _ _ _ dX6_keyOfBlock_9 ⟨hF.symm, rfl⟩ hP hD hS
theorem cv_X6_keyOfBlock : qV yX6_keyOfBlock cX6_keyOfBlock 2 (some .int) 1 := ⟨kc_X6_keyOfBlock, kt_X6_keyOfBlock, ks_X6_keyOfBlock, kn_X6, by decide, by decide +kernel⟩
def f_X6_putKey (r_this_keys : Nat → Int32) (p1 : Int32) (p2 : Int32) : Nat → Int32 := (upd r_this_keys (p1 &&& (7 : Int32)).toNatClampNeg (p2 &&& (15 : Int32)))
set_option linter.all false in
set_option maxHeartbeats 4000000 in
set_option maxRecDepth 100000 in
theorem c_X6_putKey (l : Launch) (D : va_G) (a_this a_this_keys a_this_bytes : Nat) (k_this_keys : ClassId) (r_this_keys : Nat → Int32) (p1 : Int32) (p2 : Int32) : CtV l yX6_putKey cX6_putKey 3 none { frames := 0, cells := 0, slots := 0, locals := 0 } D [.ref a_this, .int p1, .int p2] [(a_this, oX6 a_this_bytes a_this_keys), (a_this_keys, .inl (k_this_keys, 8, .inl r_this_keys))] [(k_this_keys, .int)] (fun (u : Nat → Int32) => f_X6_putKey r_this_keys p1 p2 = u) (fun u => [(a_this, oX6 a_this_bytes a_this_keys), (a_this_keys, .inl (k_this_keys, 8, .inl u))]) := by
  refine CtV.of (by decide) (Nat.le_of_ble_eq_true rfl) ?_
  intro p e s m below meth c A ls Q hE hP hD hS hl hQ
  obtain ⟨hx, hb, hml, hown, ht, hN, hK, hA⟩ := hE
  have hown : s.vm.findClass RX6 = some m.cls := hown
  have hl : lv_has ls 3 [(0, .ref a_this), (1, .int p1), (2, .int p2)] := hl
  obtain ⟨F, hF⟩ : ∃ F, f_X6_putKey r_this_keys p1 p2 = F := ⟨_, rfl⟩
  rw [hF] at hQ
  unfold f_X6_putKey at hF
  refine lv_aload_n hx hb dX6_putKey_0 rfl (lv_at hl 0 rfl) ?_
  refine gf_X6_15 (v := .ref a_this_keys) hx hb hown ht hK hP 0 rfl rfl dX6_putKey_1 ?_
  refine lv_iload_n hx hb dX6_putKey_4 rfl (lv_at hl 1 rfl) ?_
  refine lv_bipush (v := 7) hx hb dX6_putKey_5 (by decide) ?_
  refine lv_iand hx hb dX6_putKey_7 ?_
  refine lv_iload_n hx hb dX6_putKey_8 rfl (lv_at hl 2 rfl) ?_
  refine lv_bipush (v := 15) hx hb dX6_putKey_9 (by decide) ?_
  refine lv_iand hx hb dX6_putKey_11 ?_
  refine va_iast hx hb hK hP hD hS 1 0 rfl rfl (q_in8 _) dX6_putKey_12 (fun H locs hP hD hS => ?_)
  have hP : va_P D vwCl [(a_this, oX6 a_this_bytes a_this_keys), (a_this_keys, .inl (k_this_keys, 8, .inl (upd r_this_keys (p1 &&& (7 : Int32)).toNatClampNeg (p2 &&& (15 : Int32)))))] H := hP
  have hD : va_D A [(a_this, oX6 a_this_bytes a_this_keys), (a_this_keys, .inl (k_this_keys, 8, .inl (upd r_this_keys (p1 &&& (7 : Int32)).toNatClampNeg (p2 &&& (15 : Int32)))))] := hD
  exact hQ (upd r_this_keys (p1 &&& (7 : Int32)).toNatClampNeg (p2 &&& (15 : Int32))) _ _ _ _ dX6_putKey_13 hF.symm hP hD hS
theorem cv_X6_putKey : qV yX6_putKey cX6_putKey 3 none 2 := ⟨kc_X6_putKey, kt_X6_putKey, ks_X6_putKey, kn_X6, by decide, by decide +kernel⟩
def f_X6_isOpen_L27 (r_this_keys : Nat → Int32) (p1 : Int32) (p2 : Int32) (p3 : Int32) : Nat → Int32 → Bool
  | 0, x5 => false
  | fuel + 1, x5 => (if (if (7 : Int32) < (((p1 + p2) - (1 : Int32)) >>> ((8 : Int32) &&& 31)) then (7 : Int32) else (((p1 + p2) - (1 : Int32)) >>> ((8 : Int32) &&& 31))) < x5 then true else (if (f_X6_keyOfBlock r_this_keys x5) = p3 then f_X6_isOpen_L27 r_this_keys p1 p2 p3 fuel (x5 + (1 : Int32)) else false))
def f_X6_isOpen (r_this_keys : Nat → Int32) (p1 : Int32) (p2 : Int32) (p3 : Int32) : Bool := (if p3 = 0 then true else f_X6_isOpen_L27 r_this_keys p1 p2 p3 ((((if (7 : Int32) < (((p1 + p2) - (1 : Int32)) >>> ((8 : Int32) &&& 31)) then (7 : Int32) else (((p1 + p2) - (1 : Int32)) >>> ((8 : Int32) &&& 31))) : Int32).toInt + 1 - ((p1 >>> ((8 : Int32) &&& 31)) : Int32).toInt).toNat + 1) (p1 >>> ((8 : Int32) &&& 31)))
set_option linter.all false in
set_option maxHeartbeats 4000000 in
set_option maxRecDepth 100000 in
theorem c_X6_isOpen (l : Launch) (D : va_G) (a_this a_this_keys a_this_bytes : Nat) (k_this_keys : ClassId) (r_this_keys : Nat → Int32) (p1 : Int32) (p2 : Int32) (p3 : Int32) : CtI l yX6_isOpen cX6_isOpen 6 (some .boolean) { frames := 1, cells := 0, slots := 0, locals := 23 } D [.ref a_this, .int p1, .int p2, .int p3] [(a_this, oX6 a_this_bytes a_this_keys), (a_this_keys, .inl (k_this_keys, 8, .inl r_this_keys))] [(k_this_keys, .int)] (fun (r : Int32) (u : Bool) => f_X6_isOpen r_this_keys p1 p2 p3 = u ∧ r = bI u) (fun u => [(a_this, oX6 a_this_bytes a_this_keys), (a_this_keys, .inl (k_this_keys, 8, .inl r_this_keys))]) := by
  refine CtI.ofZ (by decide) (Nat.le_of_ble_eq_true rfl) ?_
  intro p e s m below meth c A ls Q hE hP hD hS hl hQ
  obtain ⟨hx, hb, hml, hown, ht, hN, hK, hA⟩ := hE
  have hown : s.vm.findClass RX6 = some m.cls := hown
  have hl : lv_has ls 6 [(0, .ref a_this), (1, .int p1), (2, .int p2), (3, .int p3)] := hl
  obtain ⟨F, hF⟩ : ∃ F, f_X6_isOpen r_this_keys p1 p2 p3 = F := ⟨_, rfl⟩
  rw [hF] at hQ
  unfold f_X6_isOpen at hF
  refine lv_iload_n hx hb dX6_isOpen_0 rfl (lv_at hl 3 rfl) ?_
  refine lv_if_ne (tgt := 6) hx hb dX6_isOpen_1 (by decide) (fun c_1 => ?_) (fun c_1 => ?_)
  · skip
    rw [if_neg c_1] at hF
    refine lv_iload_n hx hb dX6_isOpen_6 rfl (lv_at hl 1 rfl) ?_
    refine lv_iload_n hx hb dX6_isOpen_7 rfl (lv_at hl 2 rfl) ?_
    refine lv_iadd hx hb dX6_isOpen_8 ?_
    refine lv_iconst (v := 1) hx hb dX6_isOpen_9 (by decide) ?_
    refine lv_isub hx hb dX6_isOpen_10 ?_
    refine lv_bipush (v := 8) hx hb dX6_isOpen_11 (by decide) ?_
    refine lv_ishr hx hb dX6_isOpen_13 ?_
    refine lv_bipush (v := 7) hx hb dX6_isOpen_14 (by decide) ?_
    refine va_mmin hx hb (by rw [hml]; exact hl.1.symm) hown (ht _ km_X6_31) (ht _ kx_mins) (ht _ kn_J9) (ht _ kx_minc) (Nat.le_of_ble_eq_true rfl) (Nat.le_of_ble_eq_true rfl) (Nat.zero_le _) (Nat.zero_le _) dX6_isOpen_16 ?_
    refine lv_istore (lv' := [(4, .int (if (7 : Int32) < (((p1 + p2) - (1 : Int32)) >>> ((8 : Int32) &&& 31)) then (7 : Int32) else (((p1 + p2) - (1 : Int32)) >>> ((8 : Int32) &&& 31)))), (0, .ref a_this), (1, .int p1), (2, .int p2), (3, .int p3)]) hx hb dX6_isOpen_19 hl (by decide) rfl (fun ls hl => ?_)
    refine lv_iload_n hx hb dX6_isOpen_21 rfl (lv_at hl 2 rfl) ?_
    refine lv_bipush (v := 8) hx hb dX6_isOpen_22 (by decide) ?_
    refine lv_ishr hx hb dX6_isOpen_24 ?_
    refine lv_istore (lv' := [(5, .int (p1 >>> ((8 : Int32) &&& 31))), (4, .int (if (7 : Int32) < (((p1 + p2) - (1 : Int32)) >>> ((8 : Int32) &&& 31)) then (7 : Int32) else (((p1 + p2) - (1 : Int32)) >>> ((8 : Int32) &&& 31)))), (0, .ref a_this), (1, .int p1), (2, .int p2), (3, .int p3)]) hx hb dX6_isOpen_25 hl (by decide) rfl (fun ls hl => ?_)
    have L27 : ∀ (fuel : Nat) (x5 : Int32) (H : Heap) (locs : List Loc) (ls : Array Slot), (((if (7 : Int32) < (((p1 + p2) - (1 : Int32)) >>> ((8 : Int32) &&& 31)) then (7 : Int32) else (((p1 + p2) - (1 : Int32)) >>> ((8 : Int32) &&& 31))) : Int32).toInt + 1 - (x5 : Int32).toInt).toNat < fuel → va_P D vwCl [(a_this, oX6 a_this_bytes a_this_keys), (a_this_keys, .inl (k_this_keys, 8, .inl r_this_keys))] H → va_D A [(a_this, oX6 a_this_bytes a_this_keys), (a_this_keys, .inl (k_this_keys, 8, .inl r_this_keys))] → va_S A s.heap H locs → lv_has ls 6 [(5, .int x5), (4, .int (if (7 : Int32) < (((p1 + p2) - (1 : Int32)) >>> ((8 : Int32) &&& 31)) then (7 : Int32) else (((p1 + p2) - (1 : Int32)) >>> ((8 : Int32) &&& 31)))), (0, .ref a_this), (1, .int p1), (2, .int p2), (3, .int p3)] → f_X6_isOpen_L27 r_this_keys p1 p2 p3 fuel x5 = F → W p l e ({ frames := 1, cells := 0, slots := 0, locals := 23 } : Room) s m ([.ref a_this, .int p1, .int p2, .int p3] : List Value).toArray below meth c H locs 0 0 Q (F0 m 27 ls []) := by
      intro fuel
      induction fuel with
      | zero => intro x5 H locs ls hm; exact absurd hm (Nat.not_lt_zero _)
      | succ fuel ih =>
        intro x5 H locs ls hm  hP hD hS hl hF
        rw [f_X6_isOpen_L27] at hF
        skip
        refine lv_iload hx hb dX6_isOpen_27 (lv_at hl 0 rfl) ?_
        refine lv_iload hx hb dX6_isOpen_29 (lv_at hl 1 rfl) ?_
        refine lv_icmp_gt (tgt := 52) hx hb dX6_isOpen_31 (by decide) (fun c_3 => ?_) (fun c_3 => ?_)
        · skip
          rw [if_pos c_3] at hF
          refine lv_iconst (v := 1) hx hb dX6_isOpen_52 (by decide) ?_
          exact hQ true true _ _ _ _ dX6_isOpen_53 ⟨hF.symm, rfl⟩ hP hD hS
        · skip
          rw [if_neg c_3] at hF
          refine lv_aload_n hx hb dX6_isOpen_34 rfl (lv_at hl 2 rfl) ?_
          refine lv_iload hx hb dX6_isOpen_35 (lv_at hl 0 rfl) ?_
          refine q_Vi (rest := []) (c_X6_keyOfBlock l D a_this a_this_keys a_this_bytes k_this_keys r_this_keys x5) cv_X6_keyOfBlock hx hb hml hown ht hN hK hA hP hD hS hl.1 (km_X6_37) ⟨Nat.le_of_ble_eq_true rfl, Nat.le_of_ble_eq_true rfl⟩ rfl rfl [0, 1] (by decide) rfl [0] rfl (fun _ => rfl) (ci := 6) rfl rfl rfl rfl rfl (Nat.le_of_ble_eq_true rfl) dX6_isOpen_37 ⟨Nat.zero_le _, Nat.zero_le _⟩ (fun r u H locs hw hP hD hS => ?_)
          obtain ⟨rfl, rfl⟩ := hw
          have hP : va_P D vwCl [(a_this, oX6 a_this_bytes a_this_keys), (a_this_keys, .inl (k_this_keys, 8, .inl r_this_keys))] H := hP
          have hD : va_D A [(a_this, oX6 a_this_bytes a_this_keys), (a_this_keys, .inl (k_this_keys, 8, .inl r_this_keys))] := hD
          refine lv_iload_n hx hb dX6_isOpen_40 rfl (lv_at hl 5 rfl) ?_
          refine lv_icmp_eq (tgt := 46) hx hb dX6_isOpen_41 (by decide) (fun c_5 => ?_) (fun c_5 => ?_)
          · skip
            rw [if_pos c_5] at hF
            refine lv_iinc (v := (x5 + (1 : Int32))) (lv' := [(5, .int (x5 + (1 : Int32))), (4, .int (if (7 : Int32) < (((p1 + p2) - (1 : Int32)) >>> ((8 : Int32) &&& 31)) then (7 : Int32) else (((p1 + p2) - (1 : Int32)) >>> ((8 : Int32) &&& 31)))), (0, .ref a_this), (1, .int p1), (2, .int p2), (3, .int p3)]) hx hb dX6_isOpen_46 hl (k := 0) rfl rfl (by decide) rfl (fun ls hl => ?_)
            refine lv_goto (tgt := 27) hx hb dX6_isOpen_49 (by decide) ?_
            exact ih (x5 + (1 : Int32)) _ _ _ (by first | exact q_ple hm c_1 (q_min7 _) | exact q_ple hm c_3 (q_min7 _) | exact q_ple hm c_5 (q_min7 _))  hP hD hS (lv_sub hl [0, 1, 2, 3, 4, 5] rfl) hF
          · skip
            rw [if_neg c_5] at hF
            refine lv_iconst (v := 0) hx hb dX6_isOpen_44 (by decide) ?_
            exact hQ false false _ _ _ _ dX6_isOpen_45 ⟨hF.symm, rfl⟩ hP hD hS
    exact L27 ((((if (7 : Int32) < (((p1 + p2) - (1 : Int32)) >>> ((8 : Int32) &&& 31)) then (7 : Int32) else (((p1 + p2) - (1 : Int32)) >>> ((8 : Int32) &&& 31))) : Int32).toInt + 1 - ((p1 >>> ((8 : Int32) &&& 31)) : Int32).toInt).toNat + 1) (p1 >>> ((8 : Int32) &&& 31)) _ _ _ (Nat.lt_succ_self _)  hP hD hS (lv_sub hl [0, 1, 2, 3, 4, 5] rfl) hF
  · skip
    rw [if_pos c_1] at hF
    refine lv_iconst (v := 1) hx hb dX6_isOpen_4 (by decide) ?_
    exact hQ true true _ _ _ _ dX6_isOpen_5 ⟨hF.symm, rfl⟩ hP hD hS
theorem cv_X6_isOpen : qV yX6_isOpen cX6_isOpen 6 (some .boolean) 3 := ⟨kc_X6_isOpen, kt_X6_isOpen, ks_X6_isOpen, kn_X6, by decide, by decide +kernel⟩
