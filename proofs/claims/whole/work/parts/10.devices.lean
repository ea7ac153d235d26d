
def f_X4_hasRoomFor (o_this : Int32 × Int32 × Int32 × Int32 × Int32) (p1 : Int32) : Bool := (if (16 : Int32) < (o_this.1 + p1) then false else true)
set_option linter.all false in
set_option maxHeartbeats 4000000 in
set_option maxRecDepth 100000 in
theorem c_X4_hasRoomFor (l : Launch) (D : va_G) (a_this a_this_making a_this_queue a_this_lengths a_this_record : Nat) (o_this : Int32 × Int32 × Int32 × Int32 × Int32) (p1 : Int32) : CtI l yX4_hasRoomFor cX4_hasRoomFor 2 (some .boolean) { frames := 0, cells := 0, slots := 0, locals := 0 } D [.ref a_this, .int p1] [(a_this, oX4 a_this_making a_this_queue a_this_lengths a_this_record o_this)] [] (fun (r : Int32) (u : Bool) => f_X4_hasRoomFor o_this p1 = u ∧ r = bI u) (fun u => [(a_this, oX4 a_this_making a_this_queue a_this_lengths a_this_record o_this)]) := by
  refine CtI.ofZ (by decide) (Nat.le_of_ble_eq_true rfl) ?_
  intro p e s m below meth c A ls Q hE hP hD hS hl hQ
  obtain ⟨hx, hb, hml, hown, ht, hN, hK, hA⟩ := hE
  have hown : s.vm.findClass RX4 = some m.cls := hown
  have hl : lv_has ls 2 [(0, .ref a_this), (1, .int p1)] := hl
  obtain ⟨F, hF⟩ : ∃ F, f_X4_hasRoomFor o_this p1 = F := ⟨_, rfl⟩
  rw [hF] at hQ
  unfold f_X4_hasRoomFor at hF
  refine lv_aload_n hx hb dX4_hasRoomFor_0 rfl (lv_at hl 0 rfl) ?_
  refine gf_X4_23 (v := .int o_this.1) hx hb hown ht hK hP 0 rfl rfl dX4_hasRoomFor_1 ?_
  refine lv_iload_n hx hb dX4_hasRoomFor_4 rfl (lv_at hl 1 rfl) ?_
  refine lv_iadd hx hb dX4_hasRoomFor_5 ?_
  refine lv_bipush (v := 16) hx hb dX4_hasRoomFor_6 (by decide) ?_
  refine lv_icmp_gt (tgt := 15) hx hb dX4_hasRoomFor_8 (by decide) (fun c_1 => ?_) (fun c_1 => ?_)
  · skip
    rw [if_pos c_1] at hF
    refine lv_iconst (v := 0) hx hb dX4_hasRoomFor_15 (by decide) ?_
    exact hQ false false _ _ _ _ dX4_hasRoomFor_16 ⟨hF.symm, rfl⟩ hP hD hS
  · skip
    rw [if_neg c_1] at hF
    refine lv_iconst (v := 1) hx hb dX4_hasRoomFor_11 (by decide) ?_
    refine lv_goto (tgt := 16) hx hb dX4_hasRoomFor_12 (by decide) ?_
    exact hQ true true _ _ _ _ dX4_hasRoomFor_16 ⟨hF.symm, rfl⟩ hP hD hS
theorem cv_X4_hasRoomFor : qV yX4_hasRoomFor cX4_hasRoomFor 2 (some .boolean) 1 := ⟨kc_X4_hasRoomFor, kt_X4_hasRoomFor, ks_X4_hasRoomFor, kn_X4, by decide, by decide +kernel⟩
def f_X4_append (o_this : Int32 × Int32 × Int32 × Int32 × Int32) (r_this_making : Nat → Int32) (p1 : Int32) : (Int32 × Int32 × Int32 × Int32 × Int32) × (Nat → Int32) := (if o_this.1 < 0 then (o_this, r_this_making) else (if (16 : Int32) ≤ o_this.1 then (o_this, r_this_making) else (((o_this.1 + (1 : Int32)), o_this.2.1, o_this.2.2.1, o_this.2.2.2.1, o_this.2.2.2.2), (upd r_this_making o_this.1.toNatClampNeg (vp_nar .byte p1.toInt8.toInt32)))))
set_option linter.all false in
set_option maxHeartbeats 4000000 in
set_option maxRecDepth 100000 in
theorem c_X4_append (l : Launch) (D : va_G) (a_this a_this_making a_this_queue a_this_lengths a_this_record : Nat) (k_this_making : ClassId) (o_this : Int32 × Int32 × Int32 × Int32 × Int32) (r_this_making : Nat → Int32) (p1 : Int32) : CtV l yX4_append cX4_append 2 none { frames := 0, cells := 0, slots := 0, locals := 0 } D [.ref a_this, .int p1] [(a_this, oX4 a_this_making a_this_queue a_this_lengths a_this_record o_this), (a_this_making, .inl (k_this_making, 16, .inl r_this_making))] [(k_this_making, .byte)] (fun (u : (Int32 × Int32 × Int32 × Int32 × Int32) × (Nat → Int32)) => f_X4_append o_this r_this_making p1 = u) (fun u => [(a_this, oX4 a_this_making a_this_queue a_this_lengths a_this_record u.1), (a_this_making, .inl (k_this_making, 16, .inl u.2))]) := by
  refine CtV.of (by decide) (Nat.le_of_ble_eq_true rfl) ?_
  intro p e s m below meth c A ls Q hE hP hD hS hl hQ
  obtain ⟨hx, hb, hml, hown, ht, hN, hK, hA⟩ := hE
  have hown : s.vm.findClass RX4 = some m.cls := hown
  have hl : lv_has ls 2 [(0, .ref a_this), (1, .int p1)] := hl
  obtain ⟨F, hF⟩ : ∃ F, f_X4_append o_this r_this_making p1 = F := ⟨_, rfl⟩
  rw [hF] at hQ
  unfold f_X4_append at hF
  refine lv_aload_n hx hb dX4_append_0 rfl (lv_at hl 0 rfl) ?_
  refine gf_X4_23 (v := .int o_this.1) hx hb hown ht hK hP 0 rfl rfl dX4_append_1 ?_
  refine lv_if_lt (tgt := 37) hx hb dX4_append_4 (by decide) (fun c_1 => ?_) (fun c_1 => ?_)
  · skip
    rw [if_pos c_1] at hF
    exact hQ (o_this, r_this_making) _ _ _ _ dX4_append_37 hF.symm hP hD hS
  · skip
    rw [if_neg c_1] at hF
    refine lv_aload_n hx hb dX4_append_7 rfl (lv_at hl 0 rfl) ?_
    refine gf_X4_23 (v := .int o_this.1) hx hb hown ht hK hP 0 rfl rfl dX4_append_8 ?_
    refine lv_bipush (v := 16) hx hb dX4_append_11 (by decide) ?_
    refine lv_icmp_ge (tgt := 37) hx hb dX4_append_13 (by decide) (fun c_2 => ?_) (fun c_2 => ?_)
    · skip
      rw [if_pos c_2] at hF
      exact hQ (o_this, r_this_making) _ _ _ _ dX4_append_37 hF.symm hP hD hS
    · skip
      rw [if_neg c_2] at hF
      refine lv_aload_n hx hb dX4_append_16 rfl (lv_at hl 0 rfl) ?_
      refine gf_X4_9 (v := .ref a_this_making) hx hb hown ht hK hP 0 rfl rfl dX4_append_17 ?_
      refine lv_aload_n hx hb dX4_append_20 rfl (lv_at hl 0 rfl) ?_
      refine gf_X4_23 (v := .int o_this.1) hx hb hown ht hK hP 0 rfl rfl dX4_append_21 ?_
      refine lv_iload_n hx hb dX4_append_24 rfl (lv_at hl 1 rfl) ?_
      refine lv_i2b hx hb dX4_append_25 rfl ?_
      refine va_bast hx hb hK hP hD hS 1 0 rfl rfl (q_in c_1 c_2 (by decide)) dX4_append_26 (fun H locs hP hD hS => ?_)
      have hP : va_P D vwCl [(a_this, oX4 a_this_making a_this_queue a_this_lengths a_this_record o_this), (a_this_making, .inl (k_this_making, 16, .inl (upd r_this_making o_this.1.toNatClampNeg (vp_nar .byte p1.toInt8.toInt32))))] H := hP
      have hD : va_D A [(a_this, oX4 a_this_making a_this_queue a_this_lengths a_this_record o_this), (a_this_making, .inl (k_this_making, 16, .inl (upd r_this_making o_this.1.toNatClampNeg (vp_nar .byte p1.toInt8.toInt32))))] := hD
      refine lv_aload_n hx hb dX4_append_27 rfl (lv_at hl 0 rfl) ?_
      refine lv_dup hx hb dX4_append_28 rfl ?_
      refine gf_X4_23 (v := .int o_this.1) hx hb hown ht hK hP 0 rfl rfl dX4_append_29 ?_
      refine lv_iconst (v := 1) hx hb dX4_append_32 (by decide) ?_
      refine lv_iadd hx hb dX4_append_33 ?_
      refine pf_X4_23 (x := (o_this.1 + (1 : Int32))) hx hb hown ht hK hP hD hS 0 rfl (Nat.le_of_ble_eq_true rfl) dX4_append_34 (fun H locs hP hD hS => ?_)
      have hP : va_P D vwCl [(a_this, oX4 a_this_making a_this_queue a_this_lengths a_this_record ((o_this.1 + (1 : Int32)), o_this.2.1, o_this.2.2.1, o_this.2.2.2.1, o_this.2.2.2.2)), (a_this_making, .inl (k_this_making, 16, .inl (upd r_this_making o_this.1.toNatClampNeg (vp_nar .byte p1.toInt8.toInt32))))] H := hP
      have hD : va_D A [(a_this, oX4 a_this_making a_this_queue a_this_lengths a_this_record ((o_this.1 + (1 : Int32)), o_this.2.1, o_this.2.2.1, o_this.2.2.2.1, o_this.2.2.2.2)), (a_this_making, .inl (k_this_making, 16, .inl (upd r_this_making o_this.1.toNatClampNeg (vp_nar .byte p1.toInt8.toInt32))))] := hD
      exact hQ (((o_this.1 + (1 : Int32)), o_this.2.1, o_this.2.2.1, o_this.2.2.2.1, o_this.2.2.2.2), (upd r_this_making o_this.1.toNatClampNeg (vp_nar .byte p1.toInt8.toInt32))) _ _ _ _ dX4_append_37 hF.symm hP hD hS
theorem cv_X4_append : qV yX4_append cX4_append 2 none 1 := ⟨kc_X4_append, kt_X4_append, ks_X4_append, kn_X4, by decide, by decide +kernel⟩
def f_X4_queueRecord (o_this : Int32 × Int32 × Int32 × Int32 × Int32) (r_this_lengths : Nat → Int32) (r_this_making : Nat → Int32) (r_this_queue : Nat → Int32) : Bool × (Int32 × Int32 × Int32 × Int32 × Int32) × (Nat → Int32) × (Nat → Int32) := (if o_this.2.2.1 < (8 : Int32) then (true, (0, o_this.2.1, (o_this.2.2.1 + (1 : Int32)), o_this.2.2.2.1, o_this.2.2.2.2), (upd r_this_lengths ((o_this.2.1 + o_this.2.2.1) &&& (7 : Int32)).toNatClampNeg o_this.1), (va_cpy r_this_making r_this_queue (0 : Int32).toNatClampNeg (((o_this.2.1 + o_this.2.2.1) &&& (7 : Int32)) * (16 : Int32)).toNatClampNeg (16 : Int32).toNatClampNeg)) else (false, o_this, r_this_lengths, r_this_queue))
set_option linter.all false in
set_option maxHeartbeats 4000000 in
set_option maxRecDepth 100000 in
theorem c_X4_queueRecord (l : Launch) (D : va_G) (a_this a_this_lengths a_this_making a_this_queue a_this_record : Nat) (k_this_lengths k_this_making k_this_queue : ClassId) (o_this : Int32 × Int32 × Int32 × Int32 × Int32) (r_this_lengths : Nat → Int32) (r_this_making : Nat → Int32) (r_this_queue : Nat → Int32) (hfm : sb_Fit r_this_making) : CtI l yX4_queueRecord cX4_queueRecord 2 (some .boolean) { frames := 1, cells := 0, slots := 0, locals := 40 } D [.ref a_this] [(a_this, oX4 a_this_making a_this_queue a_this_lengths a_this_record o_this), (a_this_lengths, .inl (k_this_lengths, 8, .inl r_this_lengths)), (a_this_making, .inl (k_this_making, 16, .inl r_this_making)), (a_this_queue, .inl (k_this_queue, 128, .inl r_this_queue))] [(k_this_lengths, .int), (k_this_making, .byte), (k_this_queue, .byte)] (fun (r : Int32) (u : Bool × (Int32 × Int32 × Int32 × Int32 × Int32) × (Nat → Int32) × (Nat → Int32)) => f_X4_queueRecord o_this r_this_lengths r_this_making r_this_queue = u ∧ r = bI u.1) (fun u => [(a_this, oX4 a_this_making a_this_queue a_this_lengths a_this_record u.2.1), (a_this_lengths, .inl (k_this_lengths, 8, .inl u.2.2.1)), (a_this_making, .inl (k_this_making, 16, .inl r_this_making)), (a_this_queue, .inl (k_this_queue, 128, .inl u.2.2.2))]) := by
  refine CtI.ofZ (by decide) (Nat.le_of_ble_eq_true rfl) ?_
  intro p e s m below meth c A ls Q hE hP hD hS hl hQ
  obtain ⟨hx, hb, hml, hown, ht, hN, hK, hA⟩ := hE
  have hown : s.vm.findClass RX4 = some m.cls := hown
  have hl : lv_has ls 2 [(0, .ref a_this)] := hl
  obtain ⟨F, hF⟩ : ∃ F, f_X4_queueRecord o_this r_this_lengths r_this_making r_this_queue = F := ⟨_, rfl⟩
  rw [hF] at hQ
  unfold f_X4_queueRecord at hF
  refine lv_aload_n hx hb dX4_queueRecord_0 rfl (lv_at hl 0 rfl) ?_
  refine gf_X4_27 (v := .int o_this.2.2.1) hx hb hown ht hK hP 0 rfl rfl dX4_queueRecord_1 ?_
  refine lv_bipush (v := 8) hx hb dX4_queueRecord_4 (by decide) ?_
  refine lv_icmp_lt (tgt := 11) hx hb dX4_queueRecord_6 (by decide) (fun c_1 => ?_) (fun c_1 => ?_)
  · skip
    rw [if_pos c_1] at hF
    refine lv_aload_n hx hb dX4_queueRecord_11 rfl (lv_at hl 0 rfl) ?_
    refine gf_X4_30 (v := .int o_this.2.1) hx hb hown ht hK hP 0 rfl rfl dX4_queueRecord_12 ?_
    refine lv_aload_n hx hb dX4_queueRecord_15 rfl (lv_at hl 0 rfl) ?_
    refine gf_X4_27 (v := .int o_this.2.2.1) hx hb hown ht hK hP 0 rfl rfl dX4_queueRecord_16 ?_
    refine lv_iadd hx hb dX4_queueRecord_19 ?_
    refine lv_bipush (v := 7) hx hb dX4_queueRecord_20 (by decide) ?_
    refine lv_iand hx hb dX4_queueRecord_22 ?_
    refine lv_istore_n (lv' := [(1, .int ((o_this.2.1 + o_this.2.2.1) &&& (7 : Int32))), (0, .ref a_this)]) hx hb dX4_queueRecord_23 rfl hl (by decide) rfl (fun ls hl => ?_)
    refine lv_aload_n hx hb dX4_queueRecord_24 rfl (lv_at hl 1 rfl) ?_
    refine gf_X4_9 (v := .ref a_this_making) hx hb hown ht hK hP 0 rfl rfl dX4_queueRecord_25 ?_
    refine lv_iconst (v := 0) hx hb dX4_queueRecord_28 (by decide) ?_
    refine lv_aload_n hx hb dX4_queueRecord_29 rfl (lv_at hl 1 rfl) ?_
    refine gf_X4_13 (v := .ref a_this_queue) hx hb hown ht hK hP 0 rfl rfl dX4_queueRecord_30 ?_
    refine lv_iload_n hx hb dX4_queueRecord_33 rfl (lv_at hl 0 rfl) ?_
    refine lv_bipush (v := 16) hx hb dX4_queueRecord_34 (by decide) ?_
    refine lv_imul hx hb dX4_queueRecord_36 ?_
    refine lv_bipush (v := 16) hx hb dX4_queueRecord_37 (by decide) ?_
    refine va_copyi hx hb (by rw [hml]; exact hl.1.symm) hown (ht _ km_X4_33) (ht _ kx_nat) (ht _ kx_stat) (ht _ kn_J10) hK hP hD hS 2 3 1 2 rfl rfl rfl rfl rfl (by decide) (q_seat0 _) (by decide) (by decide) (q_seat1 _) (fun i _ => hfm _) (Nat.le_of_ble_eq_true rfl) (Nat.le_of_ble_eq_true rfl) dX4_queueRecord_39 (fun H locs hP hD hS => ?_)
    have hP : va_P D vwCl [(a_this, oX4 a_this_making a_this_queue a_this_lengths a_this_record o_this), (a_this_lengths, .inl (k_this_lengths, 8, .inl r_this_lengths)), (a_this_making, .inl (k_this_making, 16, .inl r_this_making)), (a_this_queue, .inl (k_this_queue, 128, .inl (va_cpy r_this_making r_this_queue (0 : Int32).toNatClampNeg (((o_this.2.1 + o_this.2.2.1) &&& (7 : Int32)) * (16 : Int32)).toNatClampNeg (16 : Int32).toNatClampNeg)))] H := hP
    have hD : va_D A [(a_this, oX4 a_this_making a_this_queue a_this_lengths a_this_record o_this), (a_this_lengths, .inl (k_this_lengths, 8, .inl r_this_lengths)), (a_this_making, .inl (k_this_making, 16, .inl r_this_making)), (a_this_queue, .inl (k_this_queue, 128, .inl (va_cpy r_this_making r_this_queue (0 : Int32).toNatClampNeg (((o_this.2.1 + o_this.2.2.1) &&& (7 : Int32)) * (16 : Int32)).toNatClampNeg (16 : Int32).toNatClampNeg)))] := hD
    refine lv_aload_n hx hb dX4_queueRecord_42 rfl (lv_at hl 1 rfl) ?_
    refine gf_X4_16 (v := .ref a_this_lengths) hx hb hown ht hK hP 0 rfl rfl dX4_queueRecord_43 ?_
    refine lv_iload_n hx hb dX4_queueRecord_46 rfl (lv_at hl 0 rfl) ?_
    refine lv_aload_n hx hb dX4_queueRecord_47 rfl (lv_at hl 1 rfl) ?_
    refine gf_X4_23 (v := .int o_this.1) hx hb hown ht hK hP 0 rfl rfl dX4_queueRecord_48 ?_
    refine va_iast hx hb hK hP hD hS 1 0 rfl rfl (q_in8 _) dX4_queueRecord_51 (fun H locs hP hD hS => ?_)
    have hP : va_P D vwCl [(a_this, oX4 a_this_making a_this_queue a_this_lengths a_this_record o_this), (a_this_lengths, .inl (k_this_lengths, 8, .inl (upd r_this_lengths ((o_this.2.1 + o_this.2.2.1) &&& (7 : Int32)).toNatClampNeg o_this.1))), (a_this_making, .inl (k_this_making, 16, .inl r_this_making)), (a_this_queue, .inl (k_this_queue, 128, .inl (va_cpy r_this_making r_this_queue (0 : Int32).toNatClampNeg (((o_this.2.1 + o_this.2.2.1) &&& (7 : Int32)) * (16 : Int32)).toNatClampNeg (16 : Int32).toNatClampNeg)))] H := hP
    have hD : va_D A [(a_this, oX4 a_this_making a_this_queue a_this_lengths a_this_record o_this), (a_this_lengths, .inl (k_this_lengths, 8, .inl (upd r_this_lengths ((o_this.2.1 + o_this.2.2.1) &&& (7 : Int32)).toNatClampNeg o_this.1))), (a_this_making, .inl (k_this_making, 16, .inl r_this_making)), (a_this_queue, .inl (k_this_queue, 128, .inl (va_cpy r_this_making r_this_queue (0 : Int32).toNatClampNeg (((o_this.2.1 + o_this.2.2.1) &&& (7 : Int32)) * (16 : Int32)).toNatClampNeg (16 : Int32).toNatClampNeg)))] := hD
    refine lv_aload_n hx hb dX4_queueRecord_52 rfl (lv_at hl 1 rfl) ?_
    refine lv_iconst (v := 0) hx hb dX4_queueRecord_53 (by decide) ?_
    refine pf_X4_23 (x := 0) hx hb hown ht hK hP hD hS 0 rfl (Nat.le_of_ble_eq_true rfl) dX4_queueRecord_54 (fun H locs hP hD hS => ?_)
    have hP : va_P D vwCl [(a_this, oX4 a_this_making a_this_queue a_this_lengths a_this_record (0, o_this.2.1, o_this.2.2.1, o_this.2.2.2.1, o_this.2.2.2.2)), (a_this_lengths, .inl (k_this_lengths, 8, .inl (upd r_this_lengths ((o_this.2.1 + o_this.2.2.1) &&& (7 : Int32)).toNatClampNeg o_this.1))), (a_this_making, .inl (k_this_making, 16, .inl r_this_making)), (a_this_queue, .inl (k_this_queue, 128, .inl (va_cpy r_this_making r_this_queue (0 : Int32).toNatClampNeg (((o_this.2.1 + o_this.2.2.1) &&& (7 : Int32)) * (16 : Int32)).toNatClampNeg (16 : Int32).toNatClampNeg)))] H := hP
    have hD : va_D A [(a_this, oX4 a_this_making a_this_queue a_this_lengths a_this_record (0, o_this.2.1, o_this.2.2.1, o_this.2.2.2.1, o_this.2.2.2.2)), (a_this_lengths, .inl (k_this_lengths, 8, .inl (upd r_this_lengths ((o_this.2.1 + o_this.2.2.1) &&& (7 : Int32)).toNatClampNeg o_this.1))), (a_this_making, .inl (k_this_making, 16, .inl r_this_making)), (a_this_queue, .inl (k_this_queue, 128, .inl (va_cpy r_this_making r_this_queue (0 : Int32).toNatClampNeg (((o_this.2.1 + o_this.2.2.1) &&& (7 : Int32)) * (16 : Int32)).toNatClampNeg (16 : Int32).toNatClampNeg)))] := hD
    refine lv_aload_n hx hb dX4_queueRecord_57 rfl (lv_at hl 1 rfl) ?_
    refine lv_dup hx hb dX4_queueRecord_58 rfl ?_
    refine gf_X4_27 (v := .int o_this.2.2.1) hx hb hown ht hK hP 0 rfl rfl dX4_queueRecord_59 ?_
    refine lv_iconst (v := 1) hx hb dX4_queueRecord_62 (by decide) ?_
    refine lv_iadd hx hb dX4_queueRecord_63 ?_
    refine pf_X4_27 (x := (o_this.2.2.1 + (1 : Int32))) hx hb hown ht hK hP hD hS 0 rfl (Nat.le_of_ble_eq_true rfl) dX4_queueRecord_64 (fun H locs hP hD hS => ?_)
    have hP : va_P D vwCl [(a_this, oX4 a_this_making a_this_queue a_this_lengths a_this_record (0, o_this.2.1, (o_this.2.2.1 + (1 : Int32)), o_this.2.2.2.1, o_this.2.2.2.2)), (a_this_lengths, .inl (k_this_lengths, 8, .inl (upd r_this_lengths ((o_this.2.1 + o_this.2.2.1) &&& (7 : Int32)).toNatClampNeg o_this.1))), (a_this_making, .inl (k_this_making, 16, .inl r_this_making)), (a_this_queue, .inl (k_this_queue, 128, .inl (va_cpy r_this_making r_this_queue (0 : Int32).toNatClampNeg (((o_this.2.1 + o_this.2.2.1) &&& (7 : Int32)) * (16 : Int32)).toNatClampNeg (16 : Int32).toNatClampNeg)))] H := hP
    have hD : va_D A [(a_this, oX4 a_this_making a_this_queue a_this_lengths a_this_record (0, o_this.2.1, (o_this.2.2.1 + (1 : Int32)), o_this.2.2.2.1, o_this.2.2.2.2)), (a_this_lengths, .inl (k_this_lengths, 8, .inl (upd r_this_lengths ((o_this.2.1 + o_this.2.2.1) &&& (7 : Int32)).toNatClampNeg o_this.1))), (a_this_making, .inl (k_this_making, 16, .inl r_this_making)), (a_this_queue, .inl (k_this_queue, 128, .inl (va_cpy r_this_making r_this_queue (0 : Int32).toNatClampNeg (((o_this.2.1 + o_this.2.2.1) &&& (7 : Int32)) * (16 : Int32)).toNatClampNeg (16 : Int32).toNatClampNeg)))] := hD
    refine lv_iconst (v := 1) hx hb dX4_queueRecord_67 (by decide) ?_
    exact hQ true (true, (0, o_this.2.1, (o_this.2.2.1 + (1 : Int32)), o_this.2.2.2.1, o_this.2.2.2.2), (upd r_this_lengths ((o_this.2.1 + o_this.2.2.1) &&& (7 : Int32)).toNatClampNeg o_this.1), (va_cpy r_this_making r_this_queue (0 : Int32).toNatClampNeg (((o_this.2.1 + o_this.2.2.1) &&& (7 : Int32)) * (16 : Int32)).toNatClampNeg (16 : Int32).toNatClampNeg)) _ _ _ _ dX4_queueRecord_68 ⟨hF.symm, rfl⟩ hP hD hS
  · skip
    rw [if_neg c_1] at hF
    refine lv_iconst (v := 0) hx hb dX4_queueRecord_9 (by decide) ?_
    exact hQ false (false, o_this, r_this_lengths, r_this_queue) _ _ _ _ dX4_queueRecord_10 ⟨hF.symm, rfl⟩ hP hD hS
theorem cv_X4_queueRecord : qV yX4_queueRecord cX4_queueRecord 2 (some .boolean) 0 := ⟨kc_X4_queueRecord, kt_X4_queueRecord, ks_X4_queueRecord, kn_X4, by decide, by decide +kernel⟩
def f_X4_openRecord (o_this : Int32 × Int32 × Int32 × Int32 × Int32) (r_this_lengths : Nat → Int32) (r_this_queue : Nat → Int32) (r_this_record : Nat → Int32) : Bool × (Int32 × Int32 × Int32 × Int32 × Int32) × (Nat → Int32) := (if o_this.2.2.1 = 0 then (false, o_this, r_this_record) else (true, (o_this.1, (((o_this.2.1 &&& (7 : Int32)) + (1 : Int32)) &&& (7 : Int32)), (o_this.2.2.1 - (1 : Int32)), (r_this_lengths (o_this.2.1 &&& (7 : Int32)).toNatClampNeg), 0), (va_cpy r_this_queue r_this_record ((o_this.2.1 &&& (7 : Int32)) * (16 : Int32)).toNatClampNeg (0 : Int32).toNatClampNeg (16 : Int32).toNatClampNeg)))
set_option linter.all false in
set_option maxHeartbeats 4000000 in
set_option maxRecDepth 100000 in
theorem c_X4_openRecord (l : Launch) (D : va_G) (a_this a_this_lengths a_this_queue a_this_record a_this_making : Nat) (k_this_lengths k_this_queue k_this_record : ClassId) (o_this : Int32 × Int32 × Int32 × Int32 × Int32) (r_this_lengths : Nat → Int32) (r_this_queue : Nat → Int32) (r_this_record : Nat → Int32) (hfq : sb_Fit r_this_queue) : CtI l yX4_openRecord cX4_openRecord 2 (some .boolean) { frames := 1, cells := 0, slots := 0, locals := 40 } D [.ref a_this] [(a_this, oX4 a_this_making a_this_queue a_this_lengths a_this_record o_this), (a_this_lengths, .inl (k_this_lengths, 8, .inl r_this_lengths)), (a_this_queue, .inl (k_this_queue, 128, .inl r_this_queue)), (a_this_record, .inl (k_this_record, 16, .inl r_this_record))] [(k_this_lengths, .int), (k_this_queue, .byte), (k_this_record, .byte)] (fun (r : Int32) (u : Bool × (Int32 × Int32 × Int32 × Int32 × Int32) × (Nat → Int32)) => f_X4_openRecord o_this r_this_lengths r_this_queue r_this_record = u ∧ r = bI u.1) (fun u => [(a_this, oX4 a_this_making a_this_queue a_this_lengths a_this_record u.2.1), (a_this_lengths, .inl (k_this_lengths, 8, .inl r_this_lengths)), (a_this_queue, .inl (k_this_queue, 128, .inl r_this_queue)), (a_this_record, .inl (k_this_record, 16, .inl u.2.2))]) := by
  refine CtI.ofZ (by decide) (Nat.le_of_ble_eq_true rfl) ?_
  intro p e s m below meth c A ls Q hE hP hD hS hl hQ
  obtain ⟨hx, hb, hml, hown, ht, hN, hK, hA⟩ := hE
  have hown : s.vm.findClass RX4 = some m.cls := hown
  have hl : lv_has ls 2 [(0, .ref a_this)] := hl
  obtain ⟨F, hF⟩ : ∃ F, f_X4_openRecord o_this r_this_lengths r_this_queue r_this_record = F := ⟨_, rfl⟩
  rw [hF] at hQ
  unfold f_X4_openRecord at hF
  refine lv_aload_n hx hb dX4_openRecord_0 rfl (lv_at hl 0 rfl) ?_
  refine gf_X4_27 (v := .int o_this.2.2.1) hx hb hown ht hK hP 0 rfl rfl dX4_openRecord_1 ?_
  refine lv_if_ne (tgt := 9) hx hb dX4_openRecord_4 (by decide) (fun c_1 => ?_) (fun c_1 => ?_)
  · skip
    rw [if_neg c_1] at hF
    refine lv_aload_n hx hb dX4_openRecord_9 rfl (lv_at hl 0 rfl) ?_
    refine gf_X4_30 (v := .int o_this.2.1) hx hb hown ht hK hP 0 rfl rfl dX4_openRecord_10 ?_
    refine lv_bipush (v := 7) hx hb dX4_openRecord_13 (by decide) ?_
    refine lv_iand hx hb dX4_openRecord_15 ?_
    refine lv_istore_n (lv' := [(1, .int (o_this.2.1 &&& (7 : Int32))), (0, .ref a_this)]) hx hb dX4_openRecord_16 rfl hl (by decide) rfl (fun ls hl => ?_)
    refine lv_aload_n hx hb dX4_openRecord_17 rfl (lv_at hl 1 rfl) ?_
    refine gf_X4_13 (v := .ref a_this_queue) hx hb hown ht hK hP 0 rfl rfl dX4_openRecord_18 ?_
    refine lv_iload_n hx hb dX4_openRecord_21 rfl (lv_at hl 0 rfl) ?_
    refine lv_bipush (v := 16) hx hb dX4_openRecord_22 (by decide) ?_
    refine lv_imul hx hb dX4_openRecord_24 ?_
    refine lv_aload_n hx hb dX4_openRecord_25 rfl (lv_at hl 1 rfl) ?_
    refine gf_X4_20 (v := .ref a_this_record) hx hb hown ht hK hP 0 rfl rfl dX4_openRecord_26 ?_
    refine lv_iconst (v := 0) hx hb dX4_openRecord_29 (by decide) ?_
    refine lv_bipush (v := 16) hx hb dX4_openRecord_30 (by decide) ?_
    refine va_copyi hx hb (by rw [hml]; exact hl.1.symm) hown (ht _ km_X4_33) (ht _ kx_nat) (ht _ kx_stat) (ht _ kn_J10) hK hP hD hS 2 3 1 2 rfl rfl rfl rfl rfl (q_seat0 _) (by decide) (by decide) (q_seat1 _) (by decide) (fun i _ => hfq _) (Nat.le_of_ble_eq_true rfl) (Nat.le_of_ble_eq_true rfl) dX4_openRecord_32 (fun H locs hP hD hS => ?_)
    have hP : va_P D vwCl [(a_this, oX4 a_this_making a_this_queue a_this_lengths a_this_record o_this), (a_this_lengths, .inl (k_this_lengths, 8, .inl r_this_lengths)), (a_this_queue, .inl (k_this_queue, 128, .inl r_this_queue)), (a_this_record, .inl (k_this_record, 16, .inl (va_cpy r_this_queue r_this_record ((o_this.2.1 &&& (7 : Int32)) * (16 : Int32)).toNatClampNeg (0 : Int32).toNatClampNeg (16 : Int32).toNatClampNeg)))] H := hP
    have hD : va_D A [(a_this, oX4 a_this_making a_this_queue a_this_lengths a_this_record o_this), (a_this_lengths, .inl (k_this_lengths, 8, .inl r_this_lengths)), (a_this_queue, .inl (k_this_queue, 128, .inl r_this_queue)), (a_this_record, .inl (k_this_record, 16, .inl (va_cpy r_this_queue r_this_record ((o_this.2.1 &&& (7 : Int32)) * (16 : Int32)).toNatClampNeg (0 : Int32).toNatClampNeg (16 : Int32).toNatClampNeg)))] := hD
    refine lv_aload_n hx hb dX4_openRecord_35 rfl (lv_at hl 1 rfl) ?_
    refine lv_aload_n hx hb dX4_openRecord_36 rfl (lv_at hl 1 rfl) ?_
    refine gf_X4_16 (v := .ref a_this_lengths) hx hb hown ht hK hP 0 rfl rfl dX4_openRecord_37 ?_
    refine lv_iload_n hx hb dX4_openRecord_40 rfl (lv_at hl 0 rfl) ?_
    refine va_iald hx hb hK hP 1 0 rfl rfl (q_in8 _) dX4_openRecord_41 ?_
    refine pf_X4_39 (x := (r_this_lengths (o_this.2.1 &&& (7 : Int32)).toNatClampNeg)) hx hb hown ht hK hP hD hS 0 rfl (Nat.le_of_ble_eq_true rfl) dX4_openRecord_42 (fun H locs hP hD hS => ?_)
    have hP : va_P D vwCl [(a_this, oX4 a_this_making a_this_queue a_this_lengths a_this_record (o_this.1, o_this.2.1, o_this.2.2.1, (r_this_lengths (o_this.2.1 &&& (7 : Int32)).toNatClampNeg), o_this.2.2.2.2)), (a_this_lengths, .inl (k_this_lengths, 8, .inl r_this_lengths)), (a_this_queue, .inl (k_this_queue, 128, .inl r_this_queue)), (a_this_record, .inl (k_this_record, 16, .inl (va_cpy r_this_queue r_this_record ((o_this.2.1 &&& (7 : Int32)) * (16 : Int32)).toNatClampNeg (0 : Int32).toNatClampNeg (16 : Int32).toNatClampNeg)))] H := hP
    have hD : va_D A [(a_this, oX4 a_this_making a_this_queue a_this_lengths a_this_record (o_this.1, o_this.2.1, o_this.2.2.1, (r_this_lengths (o_this.2.1 &&& (7 : Int32)).toNatClampNeg), o_this.2.2.2.2)), (a_this_lengths, .inl (k_this_lengths, 8, .inl r_this_lengths)), (a_this_queue, .inl (k_this_queue, 128, .inl r_this_queue)), (a_this_record, .inl (k_this_record, 16, .inl (va_cpy r_this_queue r_this_record ((o_this.2.1 &&& (7 : Int32)) * (16 : Int32)).toNatClampNeg (0 : Int32).toNatClampNeg (16 : Int32).toNatClampNeg)))] := hD
    refine lv_aload_n hx hb dX4_openRecord_45 rfl (lv_at hl 1 rfl) ?_
    refine lv_iconst (v := 0) hx hb dX4_openRecord_46 (by decide) ?_
    refine pf_X4_42 (x := 0) hx hb hown ht hK hP hD hS 0 rfl (Nat.le_of_ble_eq_true rfl) dX4_openRecord_47 (fun H locs hP hD hS => ?_)
    have hP : va_P D vwCl [(a_this, oX4 a_this_making a_this_queue a_this_lengths a_this_record (o_this.1, o_this.2.1, o_this.2.2.1, (r_this_lengths (o_this.2.1 &&& (7 : Int32)).toNatClampNeg), 0)), (a_this_lengths, .inl (k_this_lengths, 8, .inl r_this_lengths)), (a_this_queue, .inl (k_this_queue, 128, .inl r_this_queue)), (a_this_record, .inl (k_this_record, 16, .inl (va_cpy r_this_queue r_this_record ((o_this.2.1 &&& (7 : Int32)) * (16 : Int32)).toNatClampNeg (0 : Int32).toNatClampNeg (16 : Int32).toNatClampNeg)))] H := hP
    have hD : va_D A [(a_this, oX4 a_this_making a_this_queue a_this_lengths a_this_record (o_this.1, o_this.2.1, o_this.2.2.1, (r_this_lengths (o_this.2.1 &&& (7 : Int32)).toNatClampNeg), 0)), (a_this_lengths, .inl (k_this_lengths, 8, .inl r_this_lengths)), (a_this_queue, .inl (k_this_queue, 128, .inl r_this_queue)), (a_this_record, .inl (k_this_record, 16, .inl (va_cpy r_this_queue r_this_record ((o_this.2.1 &&& (7 : Int32)) * (16 : Int32)).toNatClampNeg (0 : Int32).toNatClampNeg (16 : Int32).toNatClampNeg)))] := hD
    refine lv_aload_n hx hb dX4_openRecord_50 rfl (lv_at hl 1 rfl) ?_
    refine lv_iload_n hx hb dX4_openRecord_51 rfl (lv_at hl 0 rfl) ?_
    refine lv_iconst (v := 1) hx hb dX4_openRecord_52 (by decide) ?_
    refine lv_iadd hx hb dX4_openRecord_53 ?_
    refine lv_bipush (v := 7) hx hb dX4_openRecord_54 (by decide) ?_
    refine lv_iand hx hb dX4_openRecord_56 ?_
    refine pf_X4_30 (x := (((o_this.2.1 &&& (7 : Int32)) + (1 : Int32)) &&& (7 : Int32))) hx hb hown ht hK hP hD hS 0 rfl (Nat.le_of_ble_eq_true rfl) dX4_openRecord_57 (fun H locs hP hD hS => ?_)
    have hP : va_P D vwCl [(a_this, oX4 a_this_making a_this_queue a_this_lengths a_this_record (o_this.1, (((o_this.2.1 &&& (7 : Int32)) + (1 : Int32)) &&& (7 : Int32)), o_this.2.2.1, (r_this_lengths (o_this.2.1 &&& (7 : Int32)).toNatClampNeg), 0)), (a_this_lengths, .inl (k_this_lengths, 8, .inl r_this_lengths)), (a_this_queue, .inl (k_this_queue, 128, .inl r_this_queue)), (a_this_record, .inl (k_this_record, 16, .inl (va_cpy r_this_queue r_this_record ((o_this.2.1 &&& (7 : Int32)) * (16 : Int32)).toNatClampNeg (0 : Int32).toNatClampNeg (16 : Int32).toNatClampNeg)))] H := hP
    have hD : va_D A [(a_this, oX4 a_this_making a_this_queue a_this_lengths a_this_record (o_this.1, (((o_this.2.1 &&& (7 : Int32)) + (1 : Int32)) &&& (7 : Int32)), o_this.2.2.1, (r_this_lengths (o_this.2.1 &&& (7 : Int32)).toNatClampNeg), 0)), (a_this_lengths, .inl (k_this_lengths, 8, .inl r_this_lengths)), (a_this_queue, .inl (k_this_queue, 128, .inl r_this_queue)), (a_this_record, .inl (k_this_record, 16, .inl (va_cpy r_this_queue r_this_record ((o_this.2.1 &&& (7 : Int32)) * (16 : Int32)).toNatClampNeg (0 : Int32).toNatClampNeg (16 : Int32).toNatClampNeg)))] := hD
    refine lv_aload_n hx hb dX4_openRecord_60 rfl (lv_at hl 1 rfl) ?_
    refine lv_dup hx hb dX4_openRecord_61 rfl ?_
    refine gf_X4_27 (v := .int o_this.2.2.1) hx hb hown ht hK hP 0 rfl rfl dX4_openRecord_62 ?_
    refine lv_iconst (v := 1) hx hb dX4_openRecord_65 (by decide) ?_
    refine lv_isub hx hb dX4_openRecord_66 ?_
    refine pf_X4_27 (x := (o_this.2.2.1 - (1 : Int32))) hx hb hown ht hK hP hD hS 0 rfl (Nat.le_of_ble_eq_true rfl) dX4_openRecord_67 (fun H locs hP hD hS => ?_)
    have hP : va_P D vwCl [(a_this, oX4 a_this_making a_this_queue a_this_lengths a_this_record (o_this.1, (((o_this.2.1 &&& (7 : Int32)) + (1 : Int32)) &&& (7 : Int32)), (o_this.2.2.1 - (1 : Int32)), (r_this_lengths (o_this.2.1 &&& (7 : Int32)).toNatClampNeg), 0)), (a_this_lengths, .inl (k_this_lengths, 8, .inl r_this_lengths)), (a_this_queue, .inl (k_this_queue, 128, .inl r_this_queue)), (a_this_record, .inl (k_this_record, 16, .inl (va_cpy r_this_queue r_this_record ((o_this.2.1 &&& (7 : Int32)) * (16 : Int32)).toNatClampNeg (0 : Int32).toNatClampNeg (16 : Int32).toNatClampNeg)))] H := hP
    have hD : va_D A [(a_this, oX4 a_this_making a_this_queue a_this_lengths a_this_record (o_this.1, (((o_this.2.1 &&& (7 : Int32)) + (1 : Int32)) &&& (7 : Int32)), (o_this.2.2.1 - (1 : Int32)), (r_this_lengths (o_this.2.1 &&& (7 : Int32)).toNatClampNeg), 0)), (a_this_lengths, .inl (k_this_lengths, 8, .inl r_this_lengths)), (a_this_queue, .inl (k_this_queue, 128, .inl r_this_queue)), (a_this_record, .inl (k_this_record, 16, .inl (va_cpy r_this_queue r_this_record ((o_this.2.1 &&& (7 : Int32)) * (16 : Int32)).toNatClampNeg (0 : Int32).toNatClampNeg (16 : Int32).toNatClampNeg)))] := hD
    refine lv_iconst (v := 1) hx hb dX4_openRecord_70 (by decide) ?_
    exact hQ true (true, (o_this.1, (((o_this.2.1 &&& (7 : Int32)) + (1 : Int32)) &&& (7 : Int32)), (o_this.2.2.1 - (1 : Int32)), (r_this_lengths (o_this.2.1 &&& (7 : Int32)).toNatClampNeg), 0), (va_cpy r_this_queue r_this_record ((o_this.2.1 &&& (7 : Int32)) * (16 : Int32)).toNatClampNeg (0 : Int32).toNatClampNeg (16 : Int32).toNatClampNeg)) _ _ _ _ dX4_openRecord_71 ⟨hF.symm, rfl⟩ hP hD hS
  · skip
    rw [if_pos c_1] at hF
    refine lv_iconst (v := 0) hx hb dX4_openRecord_7 (by decide) ?_
    exact hQ false (false, o_this, r_this_record) _ _ _ _ dX4_openRecord_8 ⟨hF.symm, rfl⟩ hP hD hS
theorem cv_X4_openRecord : qV yX4_openRecord cX4_openRecord 2 (some .boolean) 0 := ⟨kc_X4_openRecord, kt_X4_openRecord, ks_X4_openRecord, kn_X4, by decide, by decide +kernel⟩
def f_X4_isAtEnd (o_this : Int32 × Int32 × Int32 × Int32 × Int32) : Bool := (if o_this.2.2.2.2 < o_this.2.2.2.1 then false else true)
set_option linter.all false in
set_option maxHeartbeats 4000000 in
set_option maxRecDepth 100000 in
theorem c_X4_isAtEnd (l : Launch) (D : va_G) (a_this a_this_making a_this_queue a_this_lengths a_this_record : Nat) (o_this : Int32 × Int32 × Int32 × Int32 × Int32) : CtI l yX4_isAtEnd cX4_isAtEnd 1 (some .boolean) { frames := 0, cells := 0, slots := 0, locals := 0 } D [.ref a_this] [(a_this, oX4 a_this_making a_this_queue a_this_lengths a_this_record o_this)] [] (fun (r : Int32) (u : Bool) => f_X4_isAtEnd o_this = u ∧ r = bI u) (fun u => [(a_this, oX4 a_this_making a_this_queue a_this_lengths a_this_record o_this)]) := by
  refine CtI.ofZ (by decide) (Nat.le_of_ble_eq_true rfl) ?_
  intro p e s m below meth c A ls Q hE hP hD hS hl hQ
  obtain ⟨hx, hb, hml, hown, ht, hN, hK, hA⟩ := hE
  have hown : s.vm.findClass RX4 = some m.cls := hown
  have hl : lv_has ls 1 [(0, .ref a_this)] := hl
  obtain ⟨F, hF⟩ : ∃ F, f_X4_isAtEnd o_this = F := ⟨_, rfl⟩
  rw [hF] at hQ
  unfold f_X4_isAtEnd at hF
  refine lv_aload_n hx hb dX4_isAtEnd_0 rfl (lv_at hl 0 rfl) ?_
  refine gf_X4_42 (v := .int o_this.2.2.2.2) hx hb hown ht hK hP 0 rfl rfl dX4_isAtEnd_1 ?_
  refine lv_aload_n hx hb dX4_isAtEnd_4 rfl (lv_at hl 0 rfl) ?_
  refine gf_X4_39 (v := .int o_this.2.2.2.1) hx hb hown ht hK hP 0 rfl rfl dX4_isAtEnd_5 ?_
  refine lv_icmp_lt (tgt := 15) hx hb dX4_isAtEnd_8 (by decide) (fun c_1 => ?_) (fun c_1 => ?_)
  · skip
    rw [if_pos c_1] at hF
    refine lv_iconst (v := 0) hx hb dX4_isAtEnd_15 (by decide) ?_
    exact hQ false false _ _ _ _ dX4_isAtEnd_16 ⟨hF.symm, rfl⟩ hP hD hS
  · skip
    rw [if_neg c_1] at hF
    refine lv_iconst (v := 1) hx hb dX4_isAtEnd_11 (by decide) ?_
    refine lv_goto (tgt := 16) hx hb dX4_isAtEnd_12 (by decide) ?_
    exact hQ true true _ _ _ _ dX4_isAtEnd_16 ⟨hF.symm, rfl⟩ hP hD hS
theorem cv_X4_isAtEnd : qV yX4_isAtEnd cX4_isAtEnd 1 (some .boolean) 0 := ⟨kc_X4_isAtEnd, kt_X4_isAtEnd, ks_X4_isAtEnd, kn_X4, by decide, by decide +kernel⟩
def f_X4_nextByte (o_this : Int32 × Int32 × Int32 × Int32 × Int32) (r_this_record : Nat → Int32) : Int32 × (Int32 × Int32 × Int32 × Int32 × Int32) := (if o_this.2.2.2.2 < 0 then (0, (o_this.1, o_this.2.1, o_this.2.2.1, o_this.2.2.2.1, (o_this.2.2.2.2 + (1 : Int32)))) else (if (16 : Int32) ≤ o_this.2.2.2.2 then (0, (o_this.1, o_this.2.1, o_this.2.2.1, o_this.2.2.2.1, (o_this.2.2.2.2 + (1 : Int32)))) else (((r_this_record o_this.2.2.2.2.toNatClampNeg) &&& (255 : Int32)), (o_this.1, o_this.2.1, o_this.2.2.1, o_this.2.2.2.1, (o_this.2.2.2.2 + (1 : Int32))))))
set_option linter.all false in
set_option maxHeartbeats 4000000 in
set_option maxRecDepth 100000 in
theorem c_X4_nextByte (l : Launch) (D : va_G) (a_this a_this_record a_this_making a_this_queue a_this_lengths : Nat) (k_this_record : ClassId) (o_this : Int32 × Int32 × Int32 × Int32 × Int32) (r_this_record : Nat → Int32) : CtI l yX4_nextByte cX4_nextByte 2 (some .int) { frames := 0, cells := 0, slots := 0, locals := 0 } D [.ref a_this] [(a_this, oX4 a_this_making a_this_queue a_this_lengths a_this_record o_this), (a_this_record, .inl (k_this_record, 16, .inl r_this_record))] [(k_this_record, .byte)] (fun (r : Int32) (u : Int32 × (Int32 × Int32 × Int32 × Int32 × Int32)) => f_X4_nextByte o_this r_this_record = u ∧ r = u.1) (fun u => [(a_this, oX4 a_this_making a_this_queue a_this_lengths a_this_record u.2), (a_this_record, .inl (k_this_record, 16, .inl r_this_record))]) := by
  refine CtI.of (by decide) (Nat.le_of_ble_eq_true rfl) ?_
  intro p e s m below meth c A ls Q hE hP hD hS hl hQ
  obtain ⟨hx, hb, hml, hown, ht, hN, hK, hA⟩ := hE
  have hown : s.vm.findClass RX4 = some m.cls := hown
  have hl : lv_has ls 2 [(0, .ref a_this)] := hl
  obtain ⟨F, hF⟩ : ∃ F, f_X4_nextByte o_this r_this_record = F := ⟨_, rfl⟩
  rw [hF] at hQ
  unfold f_X4_nextByte at hF
  refine lv_aload_n hx hb dX4_nextByte_0 rfl (lv_at hl 0 rfl) ?_
  refine gf_X4_42 (v := .int o_this.2.2.2.2) hx hb hown ht hK hP 0 rfl rfl dX4_nextByte_1 ?_
  refine lv_if_lt (tgt := 32) hx hb dX4_nextByte_4 (by decide) (fun c_1 => ?_) (fun c_1 => ?_)
  · skip
    rw [if_pos c_1] at hF
    refine lv_iconst (v := 0) hx hb dX4_nextByte_32 (by decide) ?_
    refine lv_istore_n (lv' := [(1, .int 0), (0, .ref a_this)]) hx hb dX4_nextByte_33 rfl hl (by decide) rfl (fun ls hl => ?_)
    refine lv_aload_n hx hb dX4_nextByte_34 rfl (lv_at hl 1 rfl) ?_
    refine lv_dup hx hb dX4_nextByte_35 rfl ?_
    refine gf_X4_42 (v := .int o_this.2.2.2.2) hx hb hown ht hK hP 0 rfl rfl dX4_nextByte_36 ?_
    refine lv_iconst (v := 1) hx hb dX4_nextByte_39 (by decide) ?_
    refine lv_iadd hx hb dX4_nextByte_40 ?_
    refine pf_X4_42 (x := (o_this.2.2.2.2 + (1 : Int32))) hx hb hown ht hK hP hD hS 0 rfl (Nat.le_of_ble_eq_true rfl) dX4_nextByte_41 (fun H locs hP hD hS => ?_)
    have hP : va_P D vwCl [(a_this, oX4 a_this_making a_this_queue a_this_lengths a_this_record (o_this.1, o_this.2.1, o_this.2.2.1, o_this.2.2.2.1, (o_this.2.2.2.2 + (1 : Int32)))), (a_this_record, .inl (k_this_record, 16, .inl r_this_record))] H := hP
    have hD : va_D A [(a_this, oX4 a_this_making a_this_queue a_this_lengths a_this_record (o_this.1, o_this.2.1, o_this.2.2.1, o_this.2.2.2.1, (o_this.2.2.2.2 + (1 : Int32)))), (a_this_record, .inl (k_this_record, 16, .inl r_this_record))] := hD
    refine lv_iload_n hx hb dX4_nextByte_44 rfl (lv_at hl 0 rfl) ?_
    exact hQ 0 (0, (o_this.1, o_this.2.1, o_this.2.2.1, o_this.2.2.2.1, (o_this.2.2.2.2 + (1 : Int32)))) _ _ _ _ dX4_nextByte_45 ⟨hF.symm, rfl⟩ hP hD hS
  · skip
    rw [if_neg c_1] at hF
    refine lv_aload_n hx hb dX4_nextByte_7 rfl (lv_at hl 0 rfl) ?_
    refine gf_X4_42 (v := .int o_this.2.2.2.2) hx hb hown ht hK hP 0 rfl rfl dX4_nextByte_8 ?_
    refine lv_bipush (v := 16) hx hb dX4_nextByte_11 (by decide) ?_
    refine lv_icmp_ge (tgt := 32) hx hb dX4_nextByte_13 (by decide) (fun c_2 => ?_) (fun c_2 => ?_)
    · skip
      rw [if_pos c_2] at hF
      refine lv_iconst (v := 0) hx hb dX4_nextByte_32 (by decide) ?_
      refine lv_istore_n (lv' := [(1, .int 0), (0, .ref a_this)]) hx hb dX4_nextByte_33 rfl hl (by decide) rfl (fun ls hl => ?_)
      refine lv_aload_n hx hb dX4_nextByte_34 rfl (lv_at hl 1 rfl) ?_
      refine lv_dup hx hb dX4_nextByte_35 rfl ?_
      refine gf_X4_42 (v := .int o_this.2.2.2.2) hx hb hown ht hK hP 0 rfl rfl dX4_nextByte_36 ?_
      refine lv_iconst (v := 1) hx hb dX4_nextByte_39 (by decide) ?_
      refine lv_iadd hx hb dX4_nextByte_40 ?_
      refine pf_X4_42 (x := (o_this.2.2.2.2 + (1 : Int32))) hx hb hown ht hK hP hD hS 0 rfl (Nat.le_of_ble_eq_true rfl) dX4_nextByte_41 (fun H locs hP hD hS => ?_)
      have hP : va_P D vwCl [(a_this, oX4 a_this_making a_this_queue a_this_lengths a_this_record (o_this.1, o_this.2.1, o_this.2.2.1, o_this.2.2.2.1, (o_this.2.2.2.2 + (1 : Int32)))), (a_this_record, .inl (k_this_record, 16, .inl r_this_record))] H := hP
      have hD : va_D A [(a_this, oX4 a_this_making a_this_queue a_this_lengths a_this_record (o_this.1, o_this.2.1, o_this.2.2.1, o_this.2.2.2.1, (o_this.2.2.2.2 + (1 : Int32)))), (a_this_record, .inl (k_this_record, 16, .inl r_this_record))] := hD
      refine lv_iload_n hx hb dX4_nextByte_44 rfl (lv_at hl 0 rfl) ?_
      exact hQ 0 (0, (o_this.1, o_this.2.1, o_this.2.2.1, o_this.2.2.2.1, (o_this.2.2.2.2 + (1 : Int32)))) _ _ _ _ dX4_nextByte_45 ⟨hF.symm, rfl⟩ hP hD hS
    · skip
      rw [if_neg c_2] at hF
      refine lv_aload_n hx hb dX4_nextByte_16 rfl (lv_at hl 0 rfl) ?_
      refine gf_X4_20 (v := .ref a_this_record) hx hb hown ht hK hP 0 rfl rfl dX4_nextByte_17 ?_
      refine lv_aload_n hx hb dX4_nextByte_20 rfl (lv_at hl 0 rfl) ?_
      refine gf_X4_42 (v := .int o_this.2.2.2.2) hx hb hown ht hK hP 0 rfl rfl dX4_nextByte_21 ?_
      refine va_bald hx hb hK hP 1 0 rfl rfl (q_in c_1 c_2 (by decide)) dX4_nextByte_24 ?_
      refine lv_sipush (v := 255) hx hb dX4_nextByte_25 (by decide) ?_
      refine lv_iand hx hb dX4_nextByte_28 ?_
      refine lv_goto (tgt := 33) hx hb dX4_nextByte_29 (by decide) ?_
      refine lv_istore_n (lv' := [(1, .int ((r_this_record o_this.2.2.2.2.toNatClampNeg) &&& (255 : Int32))), (0, .ref a_this)]) hx hb dX4_nextByte_33 rfl hl (by decide) rfl (fun ls hl => ?_)
      refine lv_aload_n hx hb dX4_nextByte_34 rfl (lv_at hl 1 rfl) ?_
      refine lv_dup hx hb dX4_nextByte_35 rfl ?_
      refine gf_X4_42 (v := .int o_this.2.2.2.2) hx hb hown ht hK hP 0 rfl rfl dX4_nextByte_36 ?_
      refine lv_iconst (v := 1) hx hb dX4_nextByte_39 (by decide) ?_
      refine lv_iadd hx hb dX4_nextByte_40 ?_
      refine pf_X4_42 (x := (o_this.2.2.2.2 + (1 : Int32))) hx hb hown ht hK hP hD hS 0 rfl (Nat.le_of_ble_eq_true rfl) dX4_nextByte_41 (fun H locs hP hD hS => ?_)
      have hP : va_P D vwCl [(a_this, oX4 a_this_making a_this_queue a_this_lengths a_this_record (o_this.1, o_this.2.1, o_this.2.2.1, o_this.2.2.2.1, (o_this.2.2.2.2 + (1 : Int32)))), (a_this_record, .inl (k_this_record, 16, .inl r_this_record))] H := hP
      have hD : va_D A [(a_this, oX4 a_this_making a_this_queue a_this_lengths a_this_record (o_this.1, o_this.2.1, o_this.2.2.1, o_this.2.2.2.1, (o_this.2.2.2.2 + (1 : Int32)))), (a_this_record, .inl (k_this_record, 16, .inl r_this_record))] := hD
      refine lv_iload_n hx hb dX4_nextByte_44 rfl (lv_at hl 0 rfl) ?_
      exact hQ ((r_this_record o_this.2.2.2.2.toNatClampNeg) &&& (255 : Int32)) (((r_this_record o_this.2.2.2.2.toNatClampNeg) &&& (255 : Int32)), (o_this.1, o_this.2.1, o_this.2.2.1, o_this.2.2.2.1, (o_this.2.2.2.2 + (1 : Int32)))) _ _ _ _ dX4_nextByte_45 ⟨hF.symm, rfl⟩ hP hD hS
theorem cv_X4_nextByte : qV yX4_nextByte cX4_nextByte 2 (some .int) 0 := ⟨kc_X4_nextByte, kt_X4_nextByte, ks_X4_nextByte, kn_X4, by decide, by decide +kernel⟩
def f_X4_skipByte (o_this : Int32 × Int32 × Int32 × Int32 × Int32) : Int32 × Int32 × Int32 × Int32 × Int32 := (o_this.1, o_this.2.1, o_this.2.2.1, o_this.2.2.2.1, (o_this.2.2.2.2 + (1 : Int32)))
set_option linter.all false in
set_option maxHeartbeats 4000000 in
set_option maxRecDepth 100000 in
theorem c_X4_skipByte (l : Launch) (D : va_G) (a_this a_this_making a_this_queue a_this_lengths a_this_record : Nat) (o_this : Int32 × Int32 × Int32 × Int32 × Int32) : CtV l yX4_skipByte cX4_skipByte 1 none { frames := 0, cells := 0, slots := 0, locals := 0 } D [.ref a_this] [(a_this, oX4 a_this_making a_this_queue a_this_lengths a_this_record o_this)] [] (fun (u : Int32 × Int32 × Int32 × Int32 × Int32) => f_X4_skipByte o_this = u) (fun u => [(a_this, oX4 a_this_making a_this_queue a_this_lengths a_this_record u)]) := by
  refine CtV.of (by decide) (Nat.le_of_ble_eq_true rfl) ?_
  intro p e s m below meth c A ls Q hE hP hD hS hl hQ
  obtain ⟨hx, hb, hml, hown, ht, hN, hK, hA⟩ := hE
  have hown : s.vm.findClass RX4 = some m.cls := hown
  have hl : lv_has ls 1 [(0, .ref a_this)] := hl
  obtain ⟨F, hF⟩ : ∃ F, f_X4_skipByte o_this = F := ⟨_, rfl⟩
  rw [hF] at hQ
  unfold f_X4_skipByte at hF
  refine lv_aload_n hx hb dX4_skipByte_0 rfl (lv_at hl 0 rfl) ?_
  refine lv_dup hx hb dX4_skipByte_1 rfl ?_
  refine gf_X4_42 (v := .int o_this.2.2.2.2) hx hb hown ht hK hP 0 rfl rfl dX4_skipByte_2 ?_
  refine lv_iconst (v := 1) hx hb dX4_skipByte_5 (by decide) ?_
  refine lv_iadd hx hb dX4_skipByte_6 ?_
  refine pf_X4_42 (x := (o_this.2.2.2.2 + (1 : Int32))) hx hb hown ht hK hP hD hS 0 rfl (Nat.le_of_ble_eq_true rfl) dX4_skipByte_7 (fun H locs hP hD hS => ?_)
  have hP : va_P D vwCl [(a_this, oX4 a_this_making a_this_queue a_this_lengths a_this_record (o_this.1, o_this.2.1, o_this.2.2.1, o_this.2.2.2.1, (o_this.2.2.2.2 + (1 : Int32))))] H := hP
  have hD : va_D A [(a_this, oX4 a_this_making a_this_queue a_this_lengths a_this_record (o_this.1, o_this.2.1, o_this.2.2.1, o_this.2.2.2.1, (o_this.2.2.2.2 + (1 : Int32))))] := hD
  exact hQ (o_this.1, o_this.2.1, o_this.2.2.1, o_this.2.2.2.1, (o_this.2.2.2.2 + (1 : Int32))) _ _ _ _ dX4_skipByte_10 hF.symm hP hD hS
theorem cv_X4_skipByte : qV yX4_skipByte cX4_skipByte 1 none 0 := ⟨kc_X4_skipByte, kt_X4_skipByte, ks_X4_skipByte, kn_X4, by decide, by decide +kernel⟩
def f_X2_beginLine (o_this : Int32 × Int32) : Int32 × Int32 := ((o_this.1 + (1 : Int32)), 0)
set_option linter.all false in
set_option maxHeartbeats 4000000 in
set_option maxRecDepth 100000 in
theorem c_X2_beginLine (l : Launch) (D : va_G) (a_this a_this_line : Nat) (o_this : Int32 × Int32) : CtV l yX2_beginLine cX2_beginLine 1 none { frames := 0, cells := 0, slots := 0, locals := 0 } D [.ref a_this] [(a_this, oX2 a_this_line o_this)] [] (fun (u : Int32 × Int32) => f_X2_beginLine o_this = u) (fun u => [(a_this, oX2 a_this_line u)]) := by
  refine CtV.of (by decide) (Nat.le_of_ble_eq_true rfl) ?_
  intro p e s m below meth c A ls Q hE hP hD hS hl hQ
  obtain ⟨hx, hb, hml, hown, ht, hN, hK, hA⟩ := hE
  have hown : s.vm.findClass RX2 = some m.cls := hown
  have hl : lv_has ls 1 [(0, .ref a_this)] := hl
  obtain ⟨F, hF⟩ : ∃ F, f_X2_beginLine o_this = F := ⟨_, rfl⟩
  rw [hF] at hQ
  unfold f_X2_beginLine at hF
  refine lv_aload_n hx hb dX2_beginLine_0 rfl (lv_at hl 0 rfl) ?_
  refine lv_dup hx hb dX2_beginLine_1 rfl ?_
  refine gf_X2_13 (v := .int o_this.1) hx hb hown ht hK hP 0 rfl rfl dX2_beginLine_2 ?_
  refine lv_iconst (v := 1) hx hb dX2_beginLine_5 (by decide) ?_
  refine lv_iadd hx hb dX2_beginLine_6 ?_
  refine pf_X2_13 (x := (o_this.1 + (1 : Int32))) hx hb hown ht hK hP hD hS 0 rfl (Nat.le_of_ble_eq_true rfl) dX2_beginLine_7 (fun H locs hP hD hS => ?_)
  have hP : va_P D vwCl [(a_this, oX2 a_this_line ((o_this.1 + (1 : Int32)), o_this.2))] H := hP
  have hD : va_D A [(a_this, oX2 a_this_line ((o_this.1 + (1 : Int32)), o_this.2))] := hD
  refine lv_aload_n hx hb dX2_beginLine_10 rfl (lv_at hl 0 rfl) ?_
  refine lv_iconst (v := 0) hx hb dX2_beginLine_11 (by decide) ?_
  refine pf_X2_17 (x := 0) hx hb hown ht hK hP hD hS 0 rfl (Nat.le_of_ble_eq_true rfl) dX2_beginLine_12 (fun H locs hP hD hS => ?_)
  have hP : va_P D vwCl [(a_this, oX2 a_this_line ((o_this.1 + (1 : Int32)), 0))] H := hP
  have hD : va_D A [(a_this, oX2 a_this_line ((o_this.1 + (1 : Int32)), 0))] := hD
  exact hQ ((o_this.1 + (1 : Int32)), 0) _ _ _ _ dX2_beginLine_15 hF.symm hP hD hS
theorem cv_X2_beginLine : qV yX2_beginLine cX2_beginLine 1 none 0 := ⟨kc_X2_beginLine, kt_X2_beginLine, ks_X2_beginLine, kn_X2, by decide, by decide +kernel⟩
def f_X2_print (o_this : Int32 × Int32) (r_this_line : Nat → Int32) (p1 : Int32) : (Int32 × Int32) × (Nat → Int32) := (if o_this.2 < 0 then ((o_this.1, (o_this.2 + (1 : Int32))), r_this_line) else (if (32 : Int32) ≤ o_this.2 then ((o_this.1, (o_this.2 + (1 : Int32))), r_this_line) else ((o_this.1, (o_this.2 + (1 : Int32))), (upd r_this_line o_this.2.toNatClampNeg (vp_nar .byte p1.toInt8.toInt32)))))
set_option linter.all false in
set_option maxHeartbeats 4000000 in
set_option maxRecDepth 100000 in
theorem c_X2_print (l : Launch) (D : va_G) (a_this a_this_line : Nat) (k_this_line : ClassId) (o_this : Int32 × Int32) (r_this_line : Nat → Int32) (p1 : Int32) : CtV l yX2_print cX2_print 2 none { frames := 0, cells := 0, slots := 0, locals := 0 } D [.ref a_this, .int p1] [(a_this, oX2 a_this_line o_this), (a_this_line, .inl (k_this_line, 32, .inl r_this_line))] [(k_this_line, .byte)] (fun (u : (Int32 × Int32) × (Nat → Int32)) => f_X2_print o_this r_this_line p1 = u) (fun u => [(a_this, oX2 a_this_line u.1), (a_this_line, .inl (k_this_line, 32, .inl u.2))]) := by
  refine CtV.of (by decide) (Nat.le_of_ble_eq_true rfl) ?_
  intro p e s m below meth c A ls Q hE hP hD hS hl hQ
  obtain ⟨hx, hb, hml, hown, ht, hN, hK, hA⟩ := hE
  have hown : s.vm.findClass RX2 = some m.cls := hown
  have hl : lv_has ls 2 [(0, .ref a_this), (1, .int p1)] := hl
  obtain ⟨F, hF⟩ : ∃ F, f_X2_print o_this r_this_line p1 = F := ⟨_, rfl⟩
  rw [hF] at hQ
  unfold f_X2_print at hF
  refine lv_aload_n hx hb dX2_print_0 rfl (lv_at hl 0 rfl) ?_
  refine gf_X2_17 (v := .int o_this.2) hx hb hown ht hK hP 0 rfl rfl dX2_print_1 ?_
  refine lv_if_lt (tgt := 27) hx hb dX2_print_4 (by decide) (fun c_1 => ?_) (fun c_1 => ?_)
  · skip
    rw [if_pos c_1] at hF
    refine lv_aload_n hx hb dX2_print_27 rfl (lv_at hl 0 rfl) ?_
    refine lv_dup hx hb dX2_print_28 rfl ?_
    refine gf_X2_17 (v := .int o_this.2) hx hb hown ht hK hP 0 rfl rfl dX2_print_29 ?_
    refine lv_iconst (v := 1) hx hb dX2_print_32 (by decide) ?_
    refine lv_iadd hx hb dX2_print_33 ?_
    refine pf_X2_17 (x := (o_this.2 + (1 : Int32))) hx hb hown ht hK hP hD hS 0 rfl (Nat.le_of_ble_eq_true rfl) dX2_print_34 (fun H locs hP hD hS => ?_)
    have hP : va_P D vwCl [(a_this, oX2 a_this_line (o_this.1, (o_this.2 + (1 : Int32)))), (a_this_line, .inl (k_this_line, 32, .inl r_this_line))] H := hP
    have hD : va_D A [(a_this, oX2 a_this_line (o_this.1, (o_this.2 + (1 : Int32)))), (a_this_line, .inl (k_this_line, 32, .inl r_this_line))] := hD
    exact hQ ((o_this.1, (o_this.2 + (1 : Int32))), r_this_line) _ _ _ _ dX2_print_37 hF.symm hP hD hS
  · skip
    rw [if_neg c_1] at hF
    refine lv_aload_n hx hb dX2_print_7 rfl (lv_at hl 0 rfl) ?_
    refine gf_X2_17 (v := .int o_this.2) hx hb hown ht hK hP 0 rfl rfl dX2_print_8 ?_
    refine lv_bipush (v := 32) hx hb dX2_print_11 (by decide) ?_
    refine lv_icmp_ge (tgt := 27) hx hb dX2_print_13 (by decide) (fun c_2 => ?_) (fun c_2 => ?_)
    · skip
      rw [if_pos c_2] at hF
      refine lv_aload_n hx hb dX2_print_27 rfl (lv_at hl 0 rfl) ?_
      refine lv_dup hx hb dX2_print_28 rfl ?_
      refine gf_X2_17 (v := .int o_this.2) hx hb hown ht hK hP 0 rfl rfl dX2_print_29 ?_
      refine lv_iconst (v := 1) hx hb dX2_print_32 (by decide) ?_
      refine lv_iadd hx hb dX2_print_33 ?_
      refine pf_X2_17 (x := (o_this.2 + (1 : Int32))) hx hb hown ht hK hP hD hS 0 rfl (Nat.le_of_ble_eq_true rfl) dX2_print_34 (fun H locs hP hD hS => ?_)
      have hP : va_P D vwCl [(a_this, oX2 a_this_line (o_this.1, (o_this.2 + (1 : Int32)))), (a_this_line, .inl (k_this_line, 32, .inl r_this_line))] H := hP
      have hD : va_D A [(a_this, oX2 a_this_line (o_this.1, (o_this.2 + (1 : Int32)))), (a_this_line, .inl (k_this_line, 32, .inl r_this_line))] := hD
      exact hQ ((o_this.1, (o_this.2 + (1 : Int32))), r_this_line) _ _ _ _ dX2_print_37 hF.symm hP hD hS
    · skip
      rw [if_neg c_2] at hF
      refine lv_aload_n hx hb dX2_print_16 rfl (lv_at hl 0 rfl) ?_
      refine gf_X2_9 (v := .ref a_this_line) hx hb hown ht hK hP 0 rfl rfl dX2_print_17 ?_
      refine lv_aload_n hx hb dX2_print_20 rfl (lv_at hl 0 rfl) ?_
      refine gf_X2_17 (v := .int o_this.2) hx hb hown ht hK hP 0 rfl rfl dX2_print_21 ?_
      refine lv_iload_n hx hb dX2_print_24 rfl (lv_at hl 1 rfl) ?_
      refine lv_i2b hx hb dX2_print_25 rfl ?_
      refine va_bast hx hb hK hP hD hS 1 0 rfl rfl (q_in c_1 c_2 (by decide)) dX2_print_26 (fun H locs hP hD hS => ?_)
      have hP : va_P D vwCl [(a_this, oX2 a_this_line o_this), (a_this_line, .inl (k_this_line, 32, .inl (upd r_this_line o_this.2.toNatClampNeg (vp_nar .byte p1.toInt8.toInt32))))] H := hP
      have hD : va_D A [(a_this, oX2 a_this_line o_this), (a_this_line, .inl (k_this_line, 32, .inl (upd r_this_line o_this.2.toNatClampNeg (vp_nar .byte p1.toInt8.toInt32))))] := hD
      refine lv_aload_n hx hb dX2_print_27 rfl (lv_at hl 0 rfl) ?_
      refine lv_dup hx hb dX2_print_28 rfl ?_
      refine gf_X2_17 (v := .int o_this.2) hx hb hown ht hK hP 0 rfl rfl dX2_print_29 ?_
      refine lv_iconst (v := 1) hx hb dX2_print_32 (by decide) ?_
      refine lv_iadd hx hb dX2_print_33 ?_
      refine pf_X2_17 (x := (o_this.2 + (1 : Int32))) hx hb hown ht hK hP hD hS 0 rfl (Nat.le_of_ble_eq_true rfl) dX2_print_34 (fun H locs hP hD hS => ?_)
      have hP : va_P D vwCl [(a_this, oX2 a_this_line (o_this.1, (o_this.2 + (1 : Int32)))), (a_this_line, .inl (k_this_line, 32, .inl (upd r_this_line o_this.2.toNatClampNeg (vp_nar .byte p1.toInt8.toInt32))))] H := hP
      have hD : va_D A [(a_this, oX2 a_this_line (o_this.1, (o_this.2 + (1 : Int32)))), (a_this_line, .inl (k_this_line, 32, .inl (upd r_this_line o_this.2.toNatClampNeg (vp_nar .byte p1.toInt8.toInt32))))] := hD
      exact hQ ((o_this.1, (o_this.2 + (1 : Int32))), (upd r_this_line o_this.2.toNatClampNeg (vp_nar .byte p1.toInt8.toInt32))) _ _ _ _ dX2_print_37 hF.symm hP hD hS
theorem cv_X2_print : qV yX2_print cX2_print 2 none 1 := ⟨kc_X2_print, kt_X2_print, ks_X2_print, kn_X2, by decide, by decide +kernel⟩
def f_X2_byteOfLine (o_this : Int32 × Int32) (r_this_line : Nat → Int32) (p1 : Int32) : Int32 := (if p1 < 0 then (-1) else (if o_this.2 ≤ p1 then (-1) else (if (32 : Int32) ≤ p1 then (-1) else ((r_this_line p1.toNatClampNeg) &&& (255 : Int32)))))
set_option linter.all false in
set_option maxHeartbeats 4000000 in
set_option maxRecDepth 100000 in
theorem c_X2_byteOfLine (l : Launch) (D : va_G) (a_this a_this_line : Nat) (k_this_line : ClassId) (o_this : Int32 × Int32) (r_this_line : Nat → Int32) (p1 : Int32) : CtI l yX2_byteOfLine cX2_byteOfLine 2 (some .int) { frames := 0, cells := 0, slots := 0, locals := 0 } D [.ref a_this, .int p1] [(a_this, oX2 a_this_line o_this), (a_this_line, .inl (k_this_line, 32, .inl r_this_line))] [(k_this_line, .byte)] (fun (r : Int32) (u : Int32) => f_X2_byteOfLine o_this r_this_line p1 = u ∧ r = u) (fun u => [(a_this, oX2 a_this_line o_this), (a_this_line, .inl (k_this_line, 32, .inl r_this_line))]) := by
  refine CtI.of (by decide) (Nat.le_of_ble_eq_true rfl) ?_
  intro p e s m below meth c A ls Q hE hP hD hS hl hQ
  obtain ⟨hx, hb, hml, hown, ht, hN, hK, hA⟩ := hE
  have hown : s.vm.findClass RX2 = some m.cls := hown
  have hl : lv_has ls 2 [(0, .ref a_this), (1, .int p1)] := hl
  obtain ⟨F, hF⟩ : ∃ F, f_X2_byteOfLine o_this r_this_line p1 = F := ⟨_, rfl⟩
  rw [hF] at hQ
  unfold f_X2_byteOfLine at hF
  refine lv_iload_n hx hb dX2_byteOfLine_0 rfl (lv_at hl 1 rfl) ?_
  refine lv_if_lt (tgt := 31) hx hb dX2_byteOfLine_1 (by decide) (fun c_1 => ?_) (fun c_1 => ?_)
  · skip
    rw [if_pos c_1] at hF
    refine lv_iconst (v := (-1)) hx hb dX2_byteOfLine_31 (by decide) ?_
    exact hQ (-1) (-1) _ _ _ _ dX2_byteOfLine_32 ⟨hF.symm, rfl⟩ hP hD hS
  · skip
    rw [if_neg c_1] at hF
    refine lv_iload_n hx hb dX2_byteOfLine_4 rfl (lv_at hl 1 rfl) ?_
    refine lv_aload_n hx hb dX2_byteOfLine_5 rfl (lv_at hl 0 rfl) ?_
    refine gf_X2_17 (v := .int o_this.2) hx hb hown ht hK hP 0 rfl rfl dX2_byteOfLine_6 ?_
    refine lv_icmp_ge (tgt := 31) hx hb dX2_byteOfLine_9 (by decide) (fun c_2 => ?_) (fun c_2 => ?_)
    · skip
      rw [if_pos c_2] at hF
      refine lv_iconst (v := (-1)) hx hb dX2_byteOfLine_31 (by decide) ?_
      exact hQ (-1) (-1) _ _ _ _ dX2_byteOfLine_32 ⟨hF.symm, rfl⟩ hP hD hS
    · skip
      rw [if_neg c_2] at hF
      refine lv_iload_n hx hb dX2_byteOfLine_12 rfl (lv_at hl 1 rfl) ?_
      refine lv_bipush (v := 32) hx hb dX2_byteOfLine_13 (by decide) ?_
      refine lv_icmp_ge (tgt := 31) hx hb dX2_byteOfLine_15 (by decide) (fun c_3 => ?_) (fun c_3 => ?_)
      · skip
        rw [if_pos c_3] at hF
        refine lv_iconst (v := (-1)) hx hb dX2_byteOfLine_31 (by decide) ?_
        exact hQ (-1) (-1) _ _ _ _ dX2_byteOfLine_32 ⟨hF.symm, rfl⟩ hP hD hS
      · skip
        rw [if_neg c_3] at hF
        refine lv_aload_n hx hb dX2_byteOfLine_18 rfl (lv_at hl 0 rfl) ?_
        refine gf_X2_9 (v := .ref a_this_line) hx hb hown ht hK hP 0 rfl rfl dX2_byteOfLine_19 ?_
        refine lv_iload_n hx hb dX2_byteOfLine_22 rfl (lv_at hl 1 rfl) ?_
        refine va_bald hx hb hK hP 1 0 rfl rfl (q_in c_1 c_3 (by decide)) dX2_byteOfLine_23 ?_
        refine lv_sipush (v := 255) hx hb dX2_byteOfLine_24 (by decide) ?_
        refine lv_iand hx hb dX2_byteOfLine_27 ?_
        refine lv_goto (tgt := 32) hx hb dX2_byteOfLine_28 (by decide) ?_
        exact hQ ((r_this_line p1.toNatClampNeg) &&& (255 : Int32)) ((r_this_line p1.toNatClampNeg) &&& (255 : Int32)) _ _ _ _ dX2_byteOfLine_32 ⟨hF.symm, rfl⟩ hP hD hS
theorem cv_X2_byteOfLine : qV yX2_byteOfLine cX2_byteOfLine 2 (some .int) 1 := ⟨kc_X2_byteOfLine, kt_X2_byteOfLine, ks_X2_byteOfLine, kn_X2, by decide, by decide +kernel⟩
