
def f_X0_start (o_this : Bool × Bool × Int32 × Int32 × Int32 × Bool × Bool × Bool × Int32 × Int32 × Int32 × Int32 × Int32) (r_p1_bytes : Nat → Int32) (p2 : Int32) : Int32 × (Bool × Bool × Int32 × Int32 × Int32 × Bool × Bool × Bool × Int32 × Int32 × Int32 × Int32 × Int32) := (if p2 = (1 : Int32) then (if o_this.1 = true then (2, o_this) else (if o_this.2.1 = true then (2, o_this) else (0, (true, o_this.2.1, p2, ((f_X6_wordAt r_p1_bytes 72).toUInt32 >>> ((28 : Int32).toUInt32 &&& Int32.toUInt32 31)).toInt32, ((f_X6_wordAt r_p1_bytes 72) &&& (16777215 : Int32)), false, false, false, o_this.2.2.2.2.2.2.2.2.1, o_this.2.2.2.2.2.2.2.2.2.1, o_this.2.2.2.2.2.2.2.2.2.2.1, o_this.2.2.2.2.2.2.2.2.2.2.2.1, o_this.2.2.2.2.2.2.2.2.2.2.2.2)))) else (if p2 = (2 : Int32) then (if o_this.1 = true then (2, o_this) else (if o_this.2.1 = true then (2, o_this) else (0, (true, o_this.2.1, p2, ((f_X6_wordAt r_p1_bytes 72).toUInt32 >>> ((28 : Int32).toUInt32 &&& Int32.toUInt32 31)).toInt32, ((f_X6_wordAt r_p1_bytes 72) &&& (16777215 : Int32)), false, false, false, o_this.2.2.2.2.2.2.2.2.1, o_this.2.2.2.2.2.2.2.2.2.1, o_this.2.2.2.2.2.2.2.2.2.2.1, o_this.2.2.2.2.2.2.2.2.2.2.2.1, o_this.2.2.2.2.2.2.2.2.2.2.2.2)))) else (3, o_this)))
set_option maxHeartbeats 4000000 in
set_option maxRecDepth 100000 in
theorem c_X0_start (l : Launch) (D : va_G) (a_this a_p1 a_p1_bytes a_this_reader a_this_printer a_p1_keys : Nat) (k_p1_bytes : ClassId) (o_this : Bool × Bool × Int32 × Int32 × Int32 × Bool × Bool × Bool × Int32 × Int32 × Int32 × Int32 × Int32) (r_p1_bytes : Nat → Int32) (p2 : Int32) : CtI l yX0_start cX0_start 4 (some .int) { frames := 2, cells := 0, slots := 0, locals := 44 } D [.ref a_this, .ref a_p1, .int p2] [(a_this, oX0 a_this_reader a_this_printer o_this), (a_p1, oX6 a_p1_bytes a_p1_keys), (a_p1_bytes, .inl (k_p1_bytes, 2048, .inl r_p1_bytes))] [(k_p1_bytes, .byte)] (fun (r : Int32) (u : Int32 × (Bool × Bool × Int32 × Int32 × Int32 × Bool × Bool × Bool × Int32 × Int32 × Int32 × Int32 × Int32)) => f_X0_start o_this r_p1_bytes p2 = u ∧ r = u.1) (fun u => [(a_this, oX0 a_this_reader a_this_printer u.2), (a_p1, oX6 a_p1_bytes a_p1_keys), (a_p1_bytes, .inl (k_p1_bytes, 2048, .inl r_p1_bytes))]) := by
  refine CtI.of (by decide) (Nat.le_of_ble_eq_true rfl) ?_
  intro p e s m below meth c A ls Q hE hP hD hS hl hQ
  obtain ⟨hx, hb, hml, hown, ht, hN, hK, hA⟩ := hE
  have hown : s.vm.findClass RX0 = some m.cls := hown
  have hl : lv_has ls 4 [(0, .ref a_this), (1, .ref a_p1), (2, .int p2)] := hl
  obtain ⟨F, hF⟩ : ∃ F, f_X0_start o_this r_p1_bytes p2 = F := ⟨_, rfl⟩
  rw [hF] at hQ
  unfold f_X0_start at hF
  refine lv_iload_n hx hb dX0_start_0 rfl (lv_at hl 2 rfl) ?_
  refine lv_iconst (v := 1) hx hb dX0_start_1 (by decide) ?_
  refine lv_icmp_eq (tgt := 12) hx hb dX0_start_2 (by decide) (fun c_1 => ?_) (fun c_1 => ?_)
  · skip
    rw [if_pos c_1] at hF
    refine lv_aload_n hx hb dX0_start_12 rfl (lv_at hl 0 rfl) ?_
    refine gf_X0_25 (v := .int (bI o_this.1)) hx hb hown ht hK hP 0 rfl rfl dX0_start_13 ?_
    refine lv_if_ne (tgt := 26) hx hb dX0_start_16 (by decide) (fun c_2 => ?_) (fun c_2 => ?_)
    · have c_2 := (bI_ne0 _).mp c_2
      rw [if_pos c_2] at hF
      refine lv_iconst (v := 2) hx hb dX0_start_26 (by decide) ?_
      exact hQ 2 (2, o_this) _ _ _ _ dX0_start_27 ⟨hF.symm, rfl⟩ hP hD hS
    · have c_2 : ¬ o_this.1 = true := by rw [(bI_eq0 _).mp c_2]; decide
      rw [if_neg c_2] at hF
      refine lv_aload_n hx hb dX0_start_19 rfl (lv_at hl 0 rfl) ?_
      refine gf_X0_29 (v := .int (bI o_this.2.1)) hx hb hown ht hK hP 0 rfl rfl dX0_start_20 ?_
      refine lv_if_eq (tgt := 28) hx hb dX0_start_23 (by decide) (fun c_3 => ?_) (fun c_3 => ?_)
      · have c_3 : ¬ o_this.2.1 = true := by rw [(bI_eq0 _).mp c_3]; decide
        rw [if_neg c_3] at hF
        refine lv_aload_n hx hb dX0_start_28 rfl (lv_at hl 1 rfl) ?_
        refine lv_bipush (v := 72) hx hb dX0_start_29 (by decide) ?_
        refine q_Vi (rest := []) (c_X6_wordAt l D a_p1 a_p1_bytes a_p1_keys k_p1_bytes r_p1_bytes 72) cv_X6_wordAt hx hb hml hown ht hN hK hA hP hD hS hl.1 (km_X0_32) ⟨Nat.le_of_ble_eq_true rfl, Nat.le_of_ble_eq_true rfl⟩ rfl rfl [1, 2] (by decide) rfl [0] rfl (fun _ => rfl) (ci := 6) rfl rfl rfl rfl rfl (Nat.le_of_ble_eq_true rfl) dX0_start_31 ⟨Nat.zero_le _, Nat.zero_le _⟩ (fun r u H locs hw hP hD hS => ?_)
        obtain ⟨rfl, rfl⟩ := hw
        have hP : va_P D vwCl [(a_this, oX0 a_this_reader a_this_printer o_this), (a_p1, oX6 a_p1_bytes a_p1_keys), (a_p1_bytes, .inl (k_p1_bytes, 2048, .inl r_p1_bytes))] H := hP
        have hD : va_D A [(a_this, oX0 a_this_reader a_this_printer o_this), (a_p1, oX6 a_p1_bytes a_p1_keys), (a_p1_bytes, .inl (k_p1_bytes, 2048, .inl r_p1_bytes))] := hD
        refine lv_istore_n (lv' := [(3, .int (f_X6_wordAt r_p1_bytes 72)), (0, .ref a_this), (1, .ref a_p1), (2, .int p2)]) hx hb dX0_start_34 rfl hl (by decide) rfl (fun ls hl => ?_)
        refine lv_aload_n hx hb dX0_start_35 rfl (lv_at hl 1 rfl) ?_
        refine lv_iload_n hx hb dX0_start_36 rfl (lv_at hl 3 rfl) ?_
        refine pf_X0_38 (x := p2) hx hb hown ht hK hP hD hS 0 rfl (Nat.le_of_ble_eq_true rfl) dX0_start_37 (fun H locs hP hD hS => ?_)
        have hP : va_P D vwCl [(a_this, oX0 a_this_reader a_this_printer (o_this.1, o_this.2.1, p2, o_this.2.2.2.1, o_this.2.2.2.2.1, o_this.2.2.2.2.2.1, o_this.2.2.2.2.2.2.1, o_this.2.2.2.2.2.2.2.1, o_this.2.2.2.2.2.2.2.2.1, o_this.2.2.2.2.2.2.2.2.2.1, o_this.2.2.2.2.2.2.2.2.2.2.1, o_this.2.2.2.2.2.2.2.2.2.2.2.1, o_this.2.2.2.2.2.2.2.2.2.2.2.2)), (a_p1, oX6 a_p1_bytes a_p1_keys), (a_p1_bytes, .inl (k_p1_bytes, 2048, .inl r_p1_bytes))] H := hP
        have hD : va_D A [(a_this, oX0 a_this_reader a_this_printer (o_this.1, o_this.2.1, p2, o_this.2.2.2.1, o_this.2.2.2.2.1, o_this.2.2.2.2.2.1, o_this.2.2.2.2.2.2.1, o_this.2.2.2.2.2.2.2.1, o_this.2.2.2.2.2.2.2.2.1, o_this.2.2.2.2.2.2.2.2.2.1, o_this.2.2.2.2.2.2.2.2.2.2.1, o_this.2.2.2.2.2.2.2.2.2.2.2.1, o_this.2.2.2.2.2.2.2.2.2.2.2.2)), (a_p1, oX6 a_p1_bytes a_p1_keys), (a_p1_bytes, .inl (k_p1_bytes, 2048, .inl r_p1_bytes))] := hD
        refine lv_aload_n hx hb dX0_start_40 rfl (lv_at hl 1 rfl) ?_
        refine lv_iload_n hx hb dX0_start_41 rfl (lv_at hl 0 rfl) ?_
        refine lv_bipush (v := 28) hx hb dX0_start_42 (by decide) ?_
        refine lv_iushr hx hb dX0_start_44 rfl ?_
        refine pf_X0_42 (x := ((f_X6_wordAt r_p1_bytes 72).toUInt32 >>> ((28 : Int32).toUInt32 &&& Int32.toUInt32 31)).toInt32) hx hb hown ht hK hP hD hS 0 rfl (Nat.le_of_ble_eq_true rfl) dX0_start_45 (fun H locs hP hD hS => ?_)
        have hP : va_P D vwCl [(a_this, oX0 a_this_reader a_this_printer (o_this.1, o_this.2.1, p2, ((f_X6_wordAt r_p1_bytes 72).toUInt32 >>> ((28 : Int32).toUInt32 &&& Int32.toUInt32 31)).toInt32, o_this.2.2.2.2.1, o_this.2.2.2.2.2.1, o_this.2.2.2.2.2.2.1, o_this.2.2.2.2.2.2.2.1, o_this.2.2.2.2.2.2.2.2.1, o_this.2.2.2.2.2.2.2.2.2.1, o_this.2.2.2.2.2.2.2.2.2.2.1, o_this.2.2.2.2.2.2.2.2.2.2.2.1, o_this.2.2.2.2.2.2.2.2.2.2.2.2)), (a_p1, oX6 a_p1_bytes a_p1_keys), (a_p1_bytes, .inl (k_p1_bytes, 2048, .inl r_p1_bytes))] H := hP
        have hD : va_D A [(a_this, oX0 a_this_reader a_this_printer (o_this.1, o_this.2.1, p2, ((f_X6_wordAt r_p1_bytes 72).toUInt32 >>> ((28 : Int32).toUInt32 &&& Int32.toUInt32 31)).toInt32, o_this.2.2.2.2.1, o_this.2.2.2.2.2.1, o_this.2.2.2.2.2.2.1, o_this.2.2.2.2.2.2.2.1, o_this.2.2.2.2.2.2.2.2.1, o_this.2.2.2.2.2.2.2.2.2.1, o_this.2.2.2.2.2.2.2.2.2.2.1, o_this.2.2.2.2.2.2.2.2.2.2.2.1, o_this.2.2.2.2.2.2.2.2.2.2.2.2)), (a_p1, oX6 a_p1_bytes a_p1_keys), (a_p1_bytes, .inl (k_p1_bytes, 2048, .inl r_p1_bytes))] := hD
        refine lv_aload_n hx hb dX0_start_48 rfl (lv_at hl 1 rfl) ?_
        refine lv_iload_n hx hb dX0_start_49 rfl (lv_at hl 0 rfl) ?_
        refine lv_ldc (v := 16777215) hx hb hown (ht _ ki_X0_45) dX0_start_50 ?_
        refine lv_iand hx hb dX0_start_52 ?_
        refine pf_X0_46 (x := ((f_X6_wordAt r_p1_bytes 72) &&& (16777215 : Int32))) hx hb hown ht hK hP hD hS 0 rfl (Nat.le_of_ble_eq_true rfl) dX0_start_53 (fun H locs hP hD hS => ?_)
        have hP : va_P D vwCl [(a_this, oX0 a_this_reader a_this_printer (o_this.1, o_this.2.1, p2, ((f_X6_wordAt r_p1_bytes 72).toUInt32 >>> ((28 : Int32).toUInt32 &&& Int32.toUInt32 31)).toInt32, ((f_X6_wordAt r_p1_bytes 72) &&& (16777215 : Int32)), o_this.2.2.2.2.2.1, o_this.2.2.2.2.2.2.1, o_this.2.2.2.2.2.2.2.1, o_this.2.2.2.2.2.2.2.2.1, o_this.2.2.2.2.2.2.2.2.2.1, o_this.2.2.2.2.2.2.2.2.2.2.1, o_this.2.2.2.2.2.2.2.2.2.2.2.1, o_this.2.2.2.2.2.2.2.2.2.2.2.2)), (a_p1, oX6 a_p1_bytes a_p1_keys), (a_p1_bytes, .inl (k_p1_bytes, 2048, .inl r_p1_bytes))] H := hP
        have hD : va_D A [(a_this, oX0 a_this_reader a_this_printer (o_this.1, o_this.2.1, p2, ((f_X6_wordAt r_p1_bytes 72).toUInt32 >>> ((28 : Int32).toUInt32 &&& Int32.toUInt32 31)).toInt32, ((f_X6_wordAt r_p1_bytes 72) &&& (16777215 : Int32)), o_this.2.2.2.2.2.1, o_this.2.2.2.2.2.2.1, o_this.2.2.2.2.2.2.2.1, o_this.2.2.2.2.2.2.2.2.1, o_this.2.2.2.2.2.2.2.2.2.1, o_this.2.2.2.2.2.2.2.2.2.2.1, o_this.2.2.2.2.2.2.2.2.2.2.2.1, o_this.2.2.2.2.2.2.2.2.2.2.2.2)), (a_p1, oX6 a_p1_bytes a_p1_keys), (a_p1_bytes, .inl (k_p1_bytes, 2048, .inl r_p1_bytes))] := hD
        refine lv_aload_n hx hb dX0_start_56 rfl (lv_at hl 1 rfl) ?_
        refine lv_iconst (v := 0) hx hb dX0_start_57 (by decide) ?_
        refine pf_X0_49 (x := false) hx hb hown ht hK hP hD hS 0 rfl (Nat.le_of_ble_eq_true rfl) dX0_start_58 (fun H locs hP hD hS => ?_)
        have hP : va_P D vwCl [(a_this, oX0 a_this_reader a_this_printer (o_this.1, o_this.2.1, p2, ((f_X6_wordAt r_p1_bytes 72).toUInt32 >>> ((28 : Int32).toUInt32 &&& Int32.toUInt32 31)).toInt32, ((f_X6_wordAt r_p1_bytes 72) &&& (16777215 : Int32)), false, o_this.2.2.2.2.2.2.1, o_this.2.2.2.2.2.2.2.1, o_this.2.2.2.2.2.2.2.2.1, o_this.2.2.2.2.2.2.2.2.2.1, o_this.2.2.2.2.2.2.2.2.2.2.1, o_this.2.2.2.2.2.2.2.2.2.2.2.1, o_this.2.2.2.2.2.2.2.2.2.2.2.2)), (a_p1, oX6 a_p1_bytes a_p1_keys), (a_p1_bytes, .inl (k_p1_bytes, 2048, .inl r_p1_bytes))] H := hP
        have hD : va_D A [(a_this, oX0 a_this_reader a_this_printer (o_this.1, o_this.2.1, p2, ((f_X6_wordAt r_p1_bytes 72).toUInt32 >>> ((28 : Int32).toUInt32 &&& Int32.toUInt32 31)).toInt32, ((f_X6_wordAt r_p1_bytes 72) &&& (16777215 : Int32)), false, o_this.2.2.2.2.2.2.1, o_this.2.2.2.2.2.2.2.1, o_this.2.2.2.2.2.2.2.2.1, o_this.2.2.2.2.2.2.2.2.2.1, o_this.2.2.2.2.2.2.2.2.2.2.1, o_this.2.2.2.2.2.2.2.2.2.2.2.1, o_this.2.2.2.2.2.2.2.2.2.2.2.2)), (a_p1, oX6 a_p1_bytes a_p1_keys), (a_p1_bytes, .inl (k_p1_bytes, 2048, .inl r_p1_bytes))] := hD
        refine lv_aload_n hx hb dX0_start_61 rfl (lv_at hl 1 rfl) ?_
        refine lv_iconst (v := 0) hx hb dX0_start_62 (by decide) ?_
        refine pf_X0_52 (x := false) hx hb hown ht hK hP hD hS 0 rfl (Nat.le_of_ble_eq_true rfl) dX0_start_63 (fun H locs hP hD hS => ?_)
        have hP : va_P D vwCl [(a_this, oX0 a_this_reader a_this_printer (o_this.1, o_this.2.1, p2, ((f_X6_wordAt r_p1_bytes 72).toUInt32 >>> ((28 : Int32).toUInt32 &&& Int32.toUInt32 31)).toInt32, ((f_X6_wordAt r_p1_bytes 72) &&& (16777215 : Int32)), false, false, o_this.2.2.2.2.2.2.2.1, o_this.2.2.2.2.2.2.2.2.1, o_this.2.2.2.2.2.2.2.2.2.1, o_this.2.2.2.2.2.2.2.2.2.2.1, o_this.2.2.2.2.2.2.2.2.2.2.2.1, o_this.2.2.2.2.2.2.2.2.2.2.2.2)), (a_p1, oX6 a_p1_bytes a_p1_keys), (a_p1_bytes, .inl (k_p1_bytes, 2048, .inl r_p1_bytes))] H := hP
        have hD : va_D A [(a_this, oX0 a_this_reader a_this_printer (o_this.1, o_this.2.1, p2, ((f_X6_wordAt r_p1_bytes 72).toUInt32 >>> ((28 : Int32).toUInt32 &&& Int32.toUInt32 31)).toInt32, ((f_X6_wordAt r_p1_bytes 72) &&& (16777215 : Int32)), false, false, o_this.2.2.2.2.2.2.2.1, o_this.2.2.2.2.2.2.2.2.1, o_this.2.2.2.2.2.2.2.2.2.1, o_this.2.2.2.2.2.2.2.2.2.2.1, o_this.2.2.2.2.2.2.2.2.2.2.2.1, o_this.2.2.2.2.2.2.2.2.2.2.2.2)), (a_p1, oX6 a_p1_bytes a_p1_keys), (a_p1_bytes, .inl (k_p1_bytes, 2048, .inl r_p1_bytes))] := hD
        refine lv_aload_n hx hb dX0_start_66 rfl (lv_at hl 1 rfl) ?_
        refine lv_iconst (v := 0) hx hb dX0_start_67 (by decide) ?_
        refine pf_X0_55 (x := false) hx hb hown ht hK hP hD hS 0 rfl (Nat.le_of_ble_eq_true rfl) dX0_start_68 (fun H locs hP hD hS => ?_)
        have hP : va_P D vwCl [(a_this, oX0 a_this_reader a_this_printer (o_this.1, o_this.2.1, p2, ((f_X6_wordAt r_p1_bytes 72).toUInt32 >>> ((28 : Int32).toUInt32 &&& Int32.toUInt32 31)).toInt32, ((f_X6_wordAt r_p1_bytes 72) &&& (16777215 : Int32)), false, false, false, o_this.2.2.2.2.2.2.2.2.1, o_this.2.2.2.2.2.2.2.2.2.1, o_this.2.2.2.2.2.2.2.2.2.2.1, o_this.2.2.2.2.2.2.2.2.2.2.2.1, o_this.2.2.2.2.2.2.2.2.2.2.2.2)), (a_p1, oX6 a_p1_bytes a_p1_keys), (a_p1_bytes, .inl (k_p1_bytes, 2048, .inl r_p1_bytes))] H := hP
        have hD : va_D A [(a_this, oX0 a_this_reader a_this_printer (o_this.1, o_this.2.1, p2, ((f_X6_wordAt r_p1_bytes 72).toUInt32 >>> ((28 : Int32).toUInt32 &&& Int32.toUInt32 31)).toInt32, ((f_X6_wordAt r_p1_bytes 72) &&& (16777215 : Int32)), false, false, false, o_this.2.2.2.2.2.2.2.2.1, o_this.2.2.2.2.2.2.2.2.2.1, o_this.2.2.2.2.2.2.2.2.2.2.1, o_this.2.2.2.2.2.2.2.2.2.2.2.1, o_this.2.2.2.2.2.2.2.2.2.2.2.2)), (a_p1, oX6 a_p1_bytes a_p1_keys), (a_p1_bytes, .inl (k_p1_bytes, 2048, .inl r_p1_bytes))] := hD
        refine lv_aload_n hx hb dX0_start_71 rfl (lv_at hl 1 rfl) ?_
        refine lv_iconst (v := 1) hx hb dX0_start_72 (by decide) ?_
        refine pf_X0_25 (x := true) hx hb hown ht hK hP hD hS 0 rfl (Nat.le_of_ble_eq_true rfl) dX0_start_73 (fun H locs hP hD hS => ?_)
        have hP : va_P D vwCl [(a_this, oX0 a_this_reader a_this_printer (true, o_this.2.1, p2, ((f_X6_wordAt r_p1_bytes 72).toUInt32 >>> ((28 : Int32).toUInt32 &&& Int32.toUInt32 31)).toInt32, ((f_X6_wordAt r_p1_bytes 72) &&& (16777215 : Int32)), false, false, false, o_this.2.2.2.2.2.2.2.2.1, o_this.2.2.2.2.2.2.2.2.2.1, o_this.2.2.2.2.2.2.2.2.2.2.1, o_this.2.2.2.2.2.2.2.2.2.2.2.1, o_this.2.2.2.2.2.2.2.2.2.2.2.2)), (a_p1, oX6 a_p1_bytes a_p1_keys), (a_p1_bytes, .inl (k_p1_bytes, 2048, .inl r_p1_bytes))] H := hP
        have hD : va_D A [(a_this, oX0 a_this_reader a_this_printer (true, o_this.2.1, p2, ((f_X6_wordAt r_p1_bytes 72).toUInt32 >>> ((28 : Int32).toUInt32 &&& Int32.toUInt32 31)).toInt32, ((f_X6_wordAt r_p1_bytes 72) &&& (16777215 : Int32)), false, false, false, o_this.2.2.2.2.2.2.2.2.1, o_this.2.2.2.2.2.2.2.2.2.1, o_this.2.2.2.2.2.2.2.2.2.2.1, o_this.2.2.2.2.2.2.2.2.2.2.2.1, o_this.2.2.2.2.2.2.2.2.2.2.2.2)), (a_p1, oX6 a_p1_bytes a_p1_keys), (a_p1_bytes, .inl (k_p1_bytes, 2048, .inl r_p1_bytes))] := hD
        refine lv_iconst (v := 0) hx hb dX0_start_76 (by decide) ?_
        exact hQ 0 (0, (true, o_this.2.1, p2, ((f_X6_wordAt r_p1_bytes 72).toUInt32 >>> ((28 : Int32).toUInt32 &&& Int32.toUInt32 31)).toInt32, ((f_X6_wordAt r_p1_bytes 72) &&& (16777215 : Int32)), false, false, false, o_this.2.2.2.2.2.2.2.2.1, o_this.2.2.2.2.2.2.2.2.2.1, o_this.2.2.2.2.2.2.2.2.2.2.1, o_this.2.2.2.2.2.2.2.2.2.2.2.1, o_this.2.2.2.2.2.2.2.2.2.2.2.2)) _ _ _ _ dX0_start_77 ⟨hF.symm, rfl⟩ hP hD hS
      · have c_3 := (bI_ne0 _).mp c_3
        rw [if_pos c_3] at hF
        refine lv_iconst (v := 2) hx hb dX0_start_26 (by decide) ?_
        exact hQ 2 (2, o_this) _ _ _ _ dX0_start_27 ⟨hF.symm, rfl⟩ hP hD hS
  · skip
    rw [if_neg c_1] at hF
    refine lv_iload_n hx hb dX0_start_5 rfl (lv_at hl 2 rfl) ?_
    refine lv_iconst (v := 2) hx hb dX0_start_6 (by decide) ?_
    refine lv_icmp_eq (tgt := 12) hx hb dX0_start_7 (by decide) (fun c_5 => ?_) (fun c_5 => ?_)
    · skip
      rw [if_pos c_5] at hF
      refine lv_aload_n hx hb dX0_start_12 rfl (lv_at hl 0 rfl) ?_
      refine gf_X0_25 (v := .int (bI o_this.1)) hx hb hown ht hK hP 0 rfl rfl dX0_start_13 ?_
      refine lv_if_ne (tgt := 26) hx hb dX0_start_16 (by decide) (fun c_6 => ?_) (fun c_6 => ?_)
      · have c_6 := (bI_ne0 _).mp c_6
        rw [if_pos c_6] at hF
        refine lv_iconst (v := 2) hx hb dX0_start_26 (by decide) ?_
        exact hQ 2 (2, o_this) _ _ _ _ dX0_start_27 ⟨hF.symm, rfl⟩ hP hD hS
      · have c_6 : ¬ o_this.1 = true := by rw [(bI_eq0 _).mp c_6]; decide
        rw [if_neg c_6] at hF
        refine lv_aload_n hx hb dX0_start_19 rfl (lv_at hl 0 rfl) ?_
        refine gf_X0_29 (v := .int (bI o_this.2.1)) hx hb hown ht hK hP 0 rfl rfl dX0_start_20 ?_
        refine lv_if_eq (tgt := 28) hx hb dX0_start_23 (by decide) (fun c_7 => ?_) (fun c_7 => ?_)
        · have c_7 : ¬ o_this.2.1 = true := by rw [(bI_eq0 _).mp c_7]; decide
          rw [if_neg c_7] at hF
          refine lv_aload_n hx hb dX0_start_28 rfl (lv_at hl 1 rfl) ?_
          refine lv_bipush (v := 72) hx hb dX0_start_29 (by decide) ?_
          refine q_Vi (rest := []) (c_X6_wordAt l D a_p1 a_p1_bytes a_p1_keys k_p1_bytes r_p1_bytes 72) cv_X6_wordAt hx hb hml hown ht hN hK hA hP hD hS hl.1 (km_X0_32) ⟨Nat.le_of_ble_eq_true rfl, Nat.le_of_ble_eq_true rfl⟩ rfl rfl [1, 2] (by decide) rfl [0] rfl (fun _ => rfl) (ci := 6) rfl rfl rfl rfl rfl (Nat.le_of_ble_eq_true rfl) dX0_start_31 ⟨Nat.zero_le _, Nat.zero_le _⟩ (fun r u H locs hw hP hD hS => ?_)
          obtain ⟨rfl, rfl⟩ := hw
          have hP : va_P D vwCl [(a_this, oX0 a_this_reader a_this_printer o_this), (a_p1, oX6 a_p1_bytes a_p1_keys), (a_p1_bytes, .inl (k_p1_bytes, 2048, .inl r_p1_bytes))] H := hP
          have hD : va_D A [(a_this, oX0 a_this_reader a_this_printer o_this), (a_p1, oX6 a_p1_bytes a_p1_keys), (a_p1_bytes, .inl (k_p1_bytes, 2048, .inl r_p1_bytes))] := hD
          refine lv_istore_n (lv' := [(3, .int (f_X6_wordAt r_p1_bytes 72)), (0, .ref a_this), (1, .ref a_p1), (2, .int p2)]) hx hb dX0_start_34 rfl hl (by decide) rfl (fun ls hl => ?_)
          refine lv_aload_n hx hb dX0_start_35 rfl (lv_at hl 1 rfl) ?_
          refine lv_iload_n hx hb dX0_start_36 rfl (lv_at hl 3 rfl) ?_
          refine pf_X0_38 (x := p2) hx hb hown ht hK hP hD hS 0 rfl (Nat.le_of_ble_eq_true rfl) dX0_start_37 (fun H locs hP hD hS => ?_)
          have hP : va_P D vwCl [(a_this, oX0 a_this_reader a_this_printer (o_this.1, o_this.2.1, p2, o_this.2.2.2.1, o_this.2.2.2.2.1, o_this.2.2.2.2.2.1, o_this.2.2.2.2.2.2.1, o_this.2.2.2.2.2.2.2.1, o_this.2.2.2.2.2.2.2.2.1, o_this.2.2.2.2.2.2.2.2.2.1, o_this.2.2.2.2.2.2.2.2.2.2.1, o_this.2.2.2.2.2.2.2.2.2.2.2.1, o_this.2.2.2.2.2.2.2.2.2.2.2.2)), (a_p1, oX6 a_p1_bytes a_p1_keys), (a_p1_bytes, .inl (k_p1_bytes, 2048, .inl r_p1_bytes))] H := hP
          have hD : va_D A [(a_this, oX0 a_this_reader a_this_printer (o_this.1, o_this.2.1, p2, o_this.2.2.2.1, o_this.2.2.2.2.1, o_this.2.2.2.2.2.1, o_this.2.2.2.2.2.2.1, o_this.2.2.2.2.2.2.2.1, o_this.2.2.2.2.2.2.2.2.1, o_this.2.2.2.2.2.2.2.2.2.1, o_this.2.2.2.2.2.2.2.2.2.2.1, o_this.2.2.2.2.2.2.2.2.2.2.2.1, o_this.2.2.2.2.2.2.2.2.2.2.2.2)), (a_p1, oX6 a_p1_bytes a_p1_keys), (a_p1_bytes, .inl (k_p1_bytes, 2048, .inl r_p1_bytes))] := hD
          refine lv_aload_n hx hb dX0_start_40 rfl (lv_at hl 1 rfl) ?_
          refine lv_iload_n hx hb dX0_start_41 rfl (lv_at hl 0 rfl) ?_
          refine lv_bipush (v := 28) hx hb dX0_start_42 (by decide) ?_
          refine lv_iushr hx hb dX0_start_44 rfl ?_
          refine pf_X0_42 (x := ((f_X6_wordAt r_p1_bytes 72).toUInt32 >>> ((28 : Int32).toUInt32 &&& Int32.toUInt32 31)).toInt32) hx hb hown ht hK hP hD hS 0 rfl (Nat.le_of_ble_eq_true rfl) dX0_start_45 (fun H locs hP hD hS => ?_)
          have hP : va_P D vwCl [(a_this, oX0 a_this_reader a_this_printer (o_this.1, o_this.2.1, p2, ((f_X6_wordAt r_p1_bytes 72).toUInt32 >>> ((28 : Int32).toUInt32 &&& Int32.toUInt32 31)).toInt32, o_this.2.2.2.2.1, o_this.2.2.2.2.2.1, o_this.2.2.2.2.2.2.1, o_this.2.2.2.2.2.2.2.1, o_this.2.2.2.2.2.2.2.2.1, o_this.2.2.2.2.2.2.2.2.2.1, o_this.2.2.2.2.2.2.2.2.2.2.1, o_this.2.2.2.2.2.2.2.2.2.2.2.1, o_this.2.2.2.2.2.2.2.2.2.2.2.2)), (a_p1, oX6 a_p1_bytes a_p1_keys), (a_p1_bytes, .inl (k_p1_bytes, 2048, .inl r_p1_bytes))] H := hP
          have hD : va_D A [(a_this, oX0 a_this_reader a_this_printer (o_this.1, o_this.2.1, p2, ((f_X6_wordAt r_p1_bytes 72).toUInt32 >>> ((28 : Int32).toUInt32 &&& Int32.toUInt32 31)).toInt32, o_this.2.2.2.2.1, o_this.2.2.2.2.2.1, o_this.2.2.2.2.2.2.1, o_this.2.2.2.2.2.2.2.1, o_this.2.2.2.2.2.2.2.2.1, o_this.2.2.2.2.2.2.2.2.2.1, o_this.2.2.2.2.2.2.2.2.2.2.1, o_this.2.2.2.2.2.2.2.2.2.2.2.1, o_this.2.2.2.2.2.2.2.2.2.2.2.2)), (a_p1, oX6 a_p1_bytes a_p1_keys), (a_p1_bytes, .inl (k_p1_bytes, 2048, .inl r_p1_bytes))] := hD
          refine lv_aload_n hx hb dX0_start_48 rfl (lv_at hl 1 rfl) ?_
          refine lv_iload_n hx hb dX0_start_49 rfl (lv_at hl 0 rfl) ?_
          refine lv_ldc (v := 16777215) hx hb hown (ht _ ki_X0_45) dX0_start_50 ?_
          refine lv_iand hx hb dX0_start_52 ?_
          refine pf_X0_46 (x := ((f_X6_wordAt r_p1_bytes 72) &&& (16777215 : Int32))) hx hb hown ht hK hP hD hS 0 rfl (Nat.le_of_ble_eq_true rfl) dX0_start_53 (fun H locs hP hD hS => ?_)
          have hP : va_P D vwCl [(a_this, oX0 a_this_reader a_this_printer (o_this.1, o_this.2.1, p2, ((f_X6_wordAt r_p1_bytes 72).toUInt32 >>> ((28 : Int32).toUInt32 &&& Int32.toUInt32 31)).toInt32, ((f_X6_wordAt r_p1_bytes 72) &&& (16777215 : Int32)), o_this.2.2.2.2.2.1, o_this.2.2.2.2.2.2.1, o_this.2.2.2.2.2.2.2.1, o_this.2.2.2.2.2.2.2.2.1, o_this.2.2.2.2.2.2.2.2.2.1, o_this.2.2.2.2.2.2.2.2.2.2.1, o_this.2.2.2.2.2.2.2.2.2.2.2.1, o_this.2.2.2.2.2.2.2.2.2.2.2.2)), (a_p1, oX6 a_p1_bytes a_p1_keys), (a_p1_bytes, .inl (k_p1_bytes, 2048, .inl r_p1_bytes))] H := hP
          have hD : va_D A [(a_this, oX0 a_this_reader a_this_printer (o_this.1, o_this.2.1, p2, ((f_X6_wordAt r_p1_bytes 72).toUInt32 >>> ((28 : Int32).toUInt32 &&& Int32.toUInt32 31)).toInt32, ((f_X6_wordAt r_p1_bytes 72) &&& (16777215 : Int32)), o_this.2.2.2.2.2.1, o_this.2.2.2.2.2.2.1, o_this.2.2.2.2.2.2.2.1, o_this.2.2.2.2.2.2.2.2.1, o_this.2.2.2.2.2.2.2.2.2.1, o_this.2.2.2.2.2.2.2.2.2.2.1, o_this.2.2.2.2.2.2.2.2.2.2.2.1, o_this.2.2.2.2.2.2.2.2.2.2.2.2)), (a_p1, oX6 a_p1_bytes a_p1_keys), (a_p1_bytes, .inl (k_p1_bytes, 2048, .inl r_p1_bytes))] := hD
          refine lv_aload_n hx hb dX0_start_56 rfl (lv_at hl 1 rfl) ?_
          refine lv_iconst (v := 0) hx hb dX0_start_57 (by decide) ?_
          refine pf_X0_49 (x := false) hx hb hown ht hK hP hD hS 0 rfl (Nat.le_of_ble_eq_true rfl) dX0_start_58 (fun H locs hP hD hS => ?_)
          have hP : va_P D vwCl [(a_this, oX0 a_this_reader a_this_printer (o_this.1, o_this.2.1, p2, ((f_X6_wordAt r_p1_bytes 72).toUInt32 >>> ((28 : Int32).toUInt32 &&& Int32.toUInt32 31)).toInt32, ((f_X6_wordAt r_p1_bytes 72) &&& (16777215 : Int32)), false, o_this.2.2.2.2.2.2.1, o_this.2.2.2.2.2.2.2.1, o_this.2.2.2.2.2.2.2.2.1, o_this.2.2.2.2.2.2.2.2.2.1, o_this.2.2.2.2.2.2.2.2.2.2.1, o_this.2.2.2.2.2.2.2.2.2.2.2.1, o_this.2.2.2.2.2.2.2.2.2.2.2.2)), (a_p1, oX6 a_p1_bytes a_p1_keys), (a_p1_bytes, .inl (k_p1_bytes, 2048, .inl r_p1_bytes))] H := hP
          have hD : va_D A [(a_this, oX0 a_this_reader a_this_printer (o_this.1, o_this.2.1, p2, ((f_X6_wordAt r_p1_bytes 72).toUInt32 >>> ((28 : Int32).toUInt32 &&& Int32.toUInt32 31)).toInt32, ((f_X6_wordAt r_p1_bytes 72) &&& (16777215 : Int32)), false, o_this.2.2.2.2.2.2.1, o_this.2.2.2.2.2.2.2.1, o_this.2.2.2.2.2.2.2.2.1, o_this.2.2.2.2.2.2.2.2.2.1, o_this.2.2.2.2.2.2.2.2.2.2.1, o_this.2.2.2.2.2.2.2.2.2.2.2.1, o_this.2.2.2.2.2.2.2.2.2.2.2.2)), (a_p1, oX6 a_p1_bytes a_p1_keys), (a_p1_bytes, .inl (k_p1_bytes, 2048, .inl r_p1_bytes))] := hD
          refine lv_aload_n hx hb dX0_start_61 rfl (lv_at hl 1 rfl) ?_
          refine lv_iconst (v := 0) hx hb dX0_start_62 (by decide) ?_
          refine pf_X0_52 (x := false) hx hb hown ht hK hP hD hS 0 rfl (Nat.le_of_ble_eq_true rfl) dX0_start_63 (fun H locs hP hD hS => ?_)
          have hP : va_P D vwCl [(a_this, oX0 a_this_reader a_this_printer (o_this.1, o_this.2.1, p2, ((f_X6_wordAt r_p1_bytes 72).toUInt32 >>> ((28 : Int32).toUInt32 &&& Int32.toUInt32 31)).toInt32, ((f_X6_wordAt r_p1_bytes 72) &&& (16777215 : Int32)), false, false, o_this.2.2.2.2.2.2.2.1, o_this.2.2.2.2.2.2.2.2.1, o_this.2.2.2.2.2.2.2.2.2.1, o_this.2.2.2.2.2.2.2.2.2.2.1, o_this.2.2.2.2.2.2.2.2.2.2.2.1, o_this.2.2.2.2.2.2.2.2.2.2.2.2)), (a_p1, oX6 a_p1_bytes a_p1_keys), (a_p1_bytes, .inl (k_p1_bytes, 2048, .inl r_p1_bytes))] H := hP
          have hD : va_D A [(a_this, oX0 a_this_reader a_this_printer (o_this.1, o_this.2.1, p2, ((f_X6_wordAt r_p1_bytes 72).toUInt32 >>> ((28 : Int32).toUInt32 &&& Int32.toUInt32 31)).toInt32, ((f_X6_wordAt r_p1_bytes 72) &&& (16777215 : Int32)), false, false, o_this.2.2.2.2.2.2.2.1, o_this.2.2.2.2.2.2.2.2.1, o_this.2.2.2.2.2.2.2.2.2.1, o_this.2.2.2.2.2.2.2.2.2.2.1, o_this.2.2.2.2.2.2.2.2.2.2.2.1, o_this.2.2.2.2.2.2.2.2.2.2.2.2)), (a_p1, oX6 a_p1_bytes a_p1_keys), (a_p1_bytes, .inl (k_p1_bytes, 2048, .inl r_p1_bytes))] := hD
          refine lv_aload_n hx hb dX0_start_66 rfl (lv_at hl 1 rfl) ?_
          refine lv_iconst (v := 0) hx hb dX0_start_67 (by decide) ?_
          refine pf_X0_55 (x := false) hx hb hown ht hK hP hD hS 0 rfl (Nat.le_of_ble_eq_true rfl) dX0_start_68 (fun H locs hP hD hS => ?_)
          have hP : va_P D vwCl [(a_this, oX0 a_this_reader a_this_printer (o_this.1, o_this.2.1, p2, ((f_X6_wordAt r_p1_bytes 72).toUInt32 >>> ((28 : Int32).toUInt32 &&& Int32.toUInt32 31)).toInt32, ((f_X6_wordAt r_p1_bytes 72) &&& (16777215 : Int32)), false, false, false, o_this.2.2.2.2.2.2.2.2.1, o_this.2.2.2.2.2.2.2.2.2.1, o_this.2.2.2.2.2.2.2.2.2.2.1, o_this.2.2.2.2.2.2.2.2.2.2.2.1, o_this.2.2.2.2.2.2.2.2.2.2.2.2)), (a_p1, oX6 a_p1_bytes a_p1_keys), (a_p1_bytes, .inl (k_p1_bytes, 2048, .inl r_p1_bytes))] H := hP
          have hD : va_D A [(a_this, oX0 a_this_reader a_this_printer (o_this.1, o_this.2.1, p2, ((f_X6_wordAt r_p1_bytes 72).toUInt32 >>> ((28 : Int32).toUInt32 &&& Int32.toUInt32 31)).toInt32, ((f_X6_wordAt r_p1_bytes 72) &&& (16777215 : Int32)), false, false, false, o_this.2.2.2.2.2.2.2.2.1, o_this.2.2.2.2.2.2.2.2.2.1, o_this.2.2.2.2.2.2.2.2.2.2.1, o_this.2.2.2.2.2.2.2.2.2.2.2.1, o_this.2.2.2.2.2.2.2.2.2.2.2.2)), (a_p1, oX6 a_p1_bytes a_p1_keys), (a_p1_bytes, .inl (k_p1_bytes, 2048, .inl r_p1_bytes))] := hD
          refine lv_aload_n hx hb dX0_start_71 rfl (lv_at hl 1 rfl) ?_
          refine lv_iconst (v := 1) hx hb dX0_start_72 (by decide) ?_
          refine pf_X0_25 (x := true) hx hb hown ht hK hP hD hS 0 rfl (Nat.le_of_ble_eq_true rfl) dX0_start_73 (fun H locs hP hD hS => ?_)
          have hP : va_P D vwCl [(a_this, oX0 a_this_reader a_this_printer (true, o_this.2.1, p2, ((f_X6_wordAt r_p1_bytes 72).toUInt32 >>> ((28 : Int32).toUInt32 &&& Int32.toUInt32 31)).toInt32, ((f_X6_wordAt r_p1_bytes 72) &&& (16777215 : Int32)), false, false, false, o_this.2.2.2.2.2.2.2.2.1, o_this.2.2.2.2.2.2.2.2.2.1, o_this.2.2.2.2.2.2.2.2.2.2.1, o_this.2.2.2.2.2.2.2.2.2.2.2.1, o_this.2.2.2.2.2.2.2.2.2.2.2.2)), (a_p1, oX6 a_p1_bytes a_p1_keys), (a_p1_bytes, .inl (k_p1_bytes, 2048, .inl r_p1_bytes))] H := hP
          have hD : va_D A [(a_this, oX0 a_this_reader a_this_printer (true, o_this.2.1, p2, ((f_X6_wordAt r_p1_bytes 72).toUInt32 >>> ((28 : Int32).toUInt32 &&& Int32.toUInt32 31)).toInt32, ((f_X6_wordAt r_p1_bytes 72) &&& (16777215 : Int32)), false, false, false, o_this.2.2.2.2.2.2.2.2.1, o_this.2.2.2.2.2.2.2.2.2.1, o_this.2.2.2.2.2.2.2.2.2.2.1, o_this.2.2.2.2.2.2.2.2.2.2.2.1, o_this.2.2.2.2.2.2.2.2.2.2.2.2)), (a_p1, oX6 a_p1_bytes a_p1_keys), (a_p1_bytes, .inl (k_p1_bytes, 2048, .inl r_p1_bytes))] := hD
          refine lv_iconst (v := 0) hx hb dX0_start_76 (by decide) ?_
          exact hQ 0 (0, (true, o_this.2.1, p2, ((f_X6_wordAt r_p1_bytes 72).toUInt32 >>> ((28 : Int32).toUInt32 &&& Int32.toUInt32 31)).toInt32, ((f_X6_wordAt r_p1_bytes 72) &&& (16777215 : Int32)), false, false, false, o_this.2.2.2.2.2.2.2.2.1, o_this.2.2.2.2.2.2.2.2.2.1, o_this.2.2.2.2.2.2.2.2.2.2.1, o_this.2.2.2.2.2.2.2.2.2.2.2.1, o_this.2.2.2.2.2.2.2.2.2.2.2.2)) _ _ _ _ dX0_start_77 ⟨hF.symm, rfl⟩ hP hD hS
        · have c_7 := (bI_ne0 _).mp c_7
          rw [if_pos c_7] at hF
          refine lv_iconst (v := 2) hx hb dX0_start_26 (by decide) ?_
          exact hQ 2 (2, o_this) _ _ _ _ dX0_start_27 ⟨hF.symm, rfl⟩ hP hD hS
    · skip
      rw [if_neg c_5] at hF
      refine lv_iconst (v := 3) hx hb dX0_start_10 (by decide) ?_
      exact hQ 3 (3, o_this) _ _ _ _ dX0_start_11 ⟨hF.symm, rfl⟩ hP hD hS
theorem cv_X0_start : qV yX0_start cX0_start 4 (some .int) 2 := ⟨kc_X0_start, kt_X0_start, ks_X0_start, kn_X0, by decide, by decide +kernel⟩
def f_X0_test (o_this : Bool × Bool × Int32 × Int32 × Int32 × Bool × Bool × Bool × Int32 × Int32 × Int32 × Int32 × Int32) : Int32 × (Bool × Bool × Int32 × Int32 × Int32 × Bool × Bool × Bool × Int32 × Int32 × Int32 × Int32 × Int32) := (if o_this.1 = true then (2, o_this) else (if o_this.2.1 = true then (1, (o_this.1, false, o_this.2.2.1, o_this.2.2.2.1, o_this.2.2.2.2.1, o_this.2.2.2.2.2.1, o_this.2.2.2.2.2.2.1, o_this.2.2.2.2.2.2.2.1, o_this.2.2.2.2.2.2.2.2.1, o_this.2.2.2.2.2.2.2.2.2.1, o_this.2.2.2.2.2.2.2.2.2.2.1, o_this.2.2.2.2.2.2.2.2.2.2.2.1, o_this.2.2.2.2.2.2.2.2.2.2.2.2)) else (0, (o_this.1, false, o_this.2.2.1, o_this.2.2.2.1, o_this.2.2.2.2.1, o_this.2.2.2.2.2.1, o_this.2.2.2.2.2.2.1, o_this.2.2.2.2.2.2.2.1, o_this.2.2.2.2.2.2.2.2.1, o_this.2.2.2.2.2.2.2.2.2.1, o_this.2.2.2.2.2.2.2.2.2.2.1, o_this.2.2.2.2.2.2.2.2.2.2.2.1, o_this.2.2.2.2.2.2.2.2.2.2.2.2))))
set_option maxHeartbeats 4000000 in
set_option maxRecDepth 100000 in
theorem c_X0_test (l : Launch) (D : va_G) (a_this a_this_reader a_this_printer : Nat) (o_this : Bool × Bool × Int32 × Int32 × Int32 × Bool × Bool × Bool × Int32 × Int32 × Int32 × Int32 × Int32) : CtI l yX0_test cX0_test 2 (some .int) { frames := 0, cells := 0, slots := 0, locals := 0 } D [.ref a_this] [(a_this, oX0 a_this_reader a_this_printer o_this)] [] (fun (r : Int32) (u : Int32 × (Bool × Bool × Int32 × Int32 × Int32 × Bool × Bool × Bool × Int32 × Int32 × Int32 × Int32 × Int32)) => f_X0_test o_this = u ∧ r = u.1) (fun u => [(a_this, oX0 a_this_reader a_this_printer u.2)]) := by
  refine CtI.of (by decide) (Nat.le_of_ble_eq_true rfl) ?_
  intro p e s m below meth c A ls Q hE hP hD hS hl hQ
  obtain ⟨hx, hb, hml, hown, ht, hN, hK, hA⟩ := hE
  have hown : s.vm.findClass RX0 = some m.cls := hown
  have hl : lv_has ls 2 [(0, .ref a_this)] := hl
  obtain ⟨F, hF⟩ : ∃ F, f_X0_test o_this = F := ⟨_, rfl⟩
  rw [hF] at hQ
  unfold f_X0_test at hF
  refine lv_aload_n hx hb dX0_test_0 rfl (lv_at hl 0 rfl) ?_
  refine gf_X0_25 (v := .int (bI o_this.1)) hx hb hown ht hK hP 0 rfl rfl dX0_test_1 ?_
  refine lv_if_eq (tgt := 9) hx hb dX0_test_4 (by decide) (fun c_1 => ?_) (fun c_1 => ?_)
  · have c_1 : ¬ o_this.1 = true := by rw [(bI_eq0 _).mp c_1]; decide
    rw [if_neg c_1] at hF
    refine lv_aload_n hx hb dX0_test_9 rfl (lv_at hl 0 rfl) ?_
    refine gf_X0_29 (v := .int (bI o_this.2.1)) hx hb hown ht hK hP 0 rfl rfl dX0_test_10 ?_
    refine lv_if_eq (tgt := 20) hx hb dX0_test_13 (by decide) (fun c_2 => ?_) (fun c_2 => ?_)
    · have c_2 : ¬ o_this.2.1 = true := by rw [(bI_eq0 _).mp c_2]; decide
      rw [if_neg c_2] at hF
      refine lv_iconst (v := 0) hx hb dX0_test_20 (by decide) ?_
      refine lv_istore_n (lv' := [(1, .int 0), (0, .ref a_this)]) hx hb dX0_test_21 rfl hl (by decide) rfl (fun ls hl => ?_)
      refine lv_aload_n hx hb dX0_test_22 rfl (lv_at hl 1 rfl) ?_
      refine lv_iconst (v := 0) hx hb dX0_test_23 (by decide) ?_
      refine pf_X0_29 (x := false) hx hb hown ht hK hP hD hS 0 rfl (Nat.le_of_ble_eq_true rfl) dX0_test_24 (fun H locs hP hD hS => ?_)
      have hP : va_P D vwCl [(a_this, oX0 a_this_reader a_this_printer (o_this.1, false, o_this.2.2.1, o_this.2.2.2.1, o_this.2.2.2.2.1, o_this.2.2.2.2.2.1, o_this.2.2.2.2.2.2.1, o_this.2.2.2.2.2.2.2.1, o_this.2.2.2.2.2.2.2.2.1, o_this.2.2.2.2.2.2.2.2.2.1, o_this.2.2.2.2.2.2.2.2.2.2.1, o_this.2.2.2.2.2.2.2.2.2.2.2.1, o_this.2.2.2.2.2.2.2.2.2.2.2.2))] H := hP
      have hD : va_D A [(a_this, oX0 a_this_reader a_this_printer (o_this.1, false, o_this.2.2.1, o_this.2.2.2.1, o_this.2.2.2.2.1, o_this.2.2.2.2.2.1, o_this.2.2.2.2.2.2.1, o_this.2.2.2.2.2.2.2.1, o_this.2.2.2.2.2.2.2.2.1, o_this.2.2.2.2.2.2.2.2.2.1, o_this.2.2.2.2.2.2.2.2.2.2.1, o_this.2.2.2.2.2.2.2.2.2.2.2.1, o_this.2.2.2.2.2.2.2.2.2.2.2.2))] := hD
      refine lv_iload_n hx hb dX0_test_27 rfl (lv_at hl 0 rfl) ?_
      exact hQ 0 (0, (o_this.1, false, o_this.2.2.1, o_this.2.2.2.1, o_this.2.2.2.2.1, o_this.2.2.2.2.2.1, o_this.2.2.2.2.2.2.1, o_this.2.2.2.2.2.2.2.1, o_this.2.2.2.2.2.2.2.2.1, o_this.2.2.2.2.2.2.2.2.2.1, o_this.2.2.2.2.2.2.2.2.2.2.1, o_this.2.2.2.2.2.2.2.2.2.2.2.1, o_this.2.2.2.2.2.2.2.2.2.2.2.2)) _ _ _ _ dX0_test_28 ⟨hF.symm, rfl⟩ hP hD hS
    · have c_2 := (bI_ne0 _).mp c_2
      rw [if_pos c_2] at hF
      refine lv_iconst (v := 1) hx hb dX0_test_16 (by decide) ?_
      refine lv_goto (tgt := 21) hx hb dX0_test_17 (by decide) ?_
      refine lv_istore_n (lv' := [(1, .int 1), (0, .ref a_this)]) hx hb dX0_test_21 rfl hl (by decide) rfl (fun ls hl => ?_)
      refine lv_aload_n hx hb dX0_test_22 rfl (lv_at hl 1 rfl) ?_
      refine lv_iconst (v := 0) hx hb dX0_test_23 (by decide) ?_
      refine pf_X0_29 (x := false) hx hb hown ht hK hP hD hS 0 rfl (Nat.le_of_ble_eq_true rfl) dX0_test_24 (fun H locs hP hD hS => ?_)
      have hP : va_P D vwCl [(a_this, oX0 a_this_reader a_this_printer (o_this.1, false, o_this.2.2.1, o_this.2.2.2.1, o_this.2.2.2.2.1, o_this.2.2.2.2.2.1, o_this.2.2.2.2.2.2.1, o_this.2.2.2.2.2.2.2.1, o_this.2.2.2.2.2.2.2.2.1, o_this.2.2.2.2.2.2.2.2.2.1, o_this.2.2.2.2.2.2.2.2.2.2.1, o_this.2.2.2.2.2.2.2.2.2.2.2.1, o_this.2.2.2.2.2.2.2.2.2.2.2.2))] H := hP
      have hD : va_D A [(a_this, oX0 a_this_reader a_this_printer (o_this.1, false, o_this.2.2.1, o_this.2.2.2.1, o_this.2.2.2.2.1, o_this.2.2.2.2.2.1, o_this.2.2.2.2.2.2.1, o_this.2.2.2.2.2.2.2.1, o_this.2.2.2.2.2.2.2.2.1, o_this.2.2.2.2.2.2.2.2.2.1, o_this.2.2.2.2.2.2.2.2.2.2.1, o_this.2.2.2.2.2.2.2.2.2.2.2.1, o_this.2.2.2.2.2.2.2.2.2.2.2.2))] := hD
      refine lv_iload_n hx hb dX0_test_27 rfl (lv_at hl 0 rfl) ?_
      exact hQ 1 (1, (o_this.1, false, o_this.2.2.1, o_this.2.2.2.1, o_this.2.2.2.2.1, o_this.2.2.2.2.2.1, o_this.2.2.2.2.2.2.1, o_this.2.2.2.2.2.2.2.1, o_this.2.2.2.2.2.2.2.2.1, o_this.2.2.2.2.2.2.2.2.2.1, o_this.2.2.2.2.2.2.2.2.2.2.1, o_this.2.2.2.2.2.2.2.2.2.2.2.1, o_this.2.2.2.2.2.2.2.2.2.2.2.2)) _ _ _ _ dX0_test_28 ⟨hF.symm, rfl⟩ hP hD hS
  · have c_1 := (bI_ne0 _).mp c_1
    rw [if_pos c_1] at hF
    refine lv_iconst (v := 2) hx hb dX0_test_7 (by decide) ?_
    exact hQ 2 (2, o_this) _ _ _ _ dX0_test_8 ⟨hF.symm, rfl⟩ hP hD hS
theorem cv_X0_test : qV yX0_test cX0_test 2 (some .int) 0 := ⟨kc_X0_test, kt_X0_test, ks_X0_test, kn_X0, by decide, by decide +kernel⟩
def f_X0_isReading (o_this : Bool × Bool × Int32 × Int32 × Int32 × Bool × Bool × Bool × Int32 × Int32 × Int32 × Int32 × Int32) : Bool := (if o_this.2.2.1 = (1 : Int32) then true else false)
set_option maxHeartbeats 4000000 in
set_option maxRecDepth 100000 in
theorem c_X0_isReading (l : Launch) (D : va_G) (a_this a_this_reader a_this_printer : Nat) (o_this : Bool × Bool × Int32 × Int32 × Int32 × Bool × Bool × Bool × Int32 × Int32 × Int32 × Int32 × Int32) : CtI l yX0_isReading cX0_isReading 1 (some .boolean) { frames := 0, cells := 0, slots := 0, locals := 0 } D [.ref a_this] [(a_this, oX0 a_this_reader a_this_printer o_this)] [] (fun (r : Int32) (u : Bool) => f_X0_isReading o_this = u ∧ r = bI u) (fun u => [(a_this, oX0 a_this_reader a_this_printer o_this)]) := by
  refine CtI.ofZ (by decide) (Nat.le_of_ble_eq_true rfl) ?_
  intro p e s m below meth c A ls Q hE hP hD hS hl hQ
  obtain ⟨hx, hb, hml, hown, ht, hN, hK, hA⟩ := hE
  have hown : s.vm.findClass RX0 = some m.cls := hown
  have hl : lv_has ls 1 [(0, .ref a_this)] := hl
  obtain ⟨F, hF⟩ : ∃ F, f_X0_isReading o_this = F := ⟨_, rfl⟩
  rw [hF] at hQ
  unfold f_X0_isReading at hF
  refine lv_aload_n hx hb dX0_isReading_0 rfl (lv_at hl 0 rfl) ?_
  refine gf_X0_38 (v := .int o_this.2.2.1) hx hb hown ht hK hP 0 rfl rfl dX0_isReading_1 ?_
  refine lv_iconst (v := 1) hx hb dX0_isReading_4 (by decide) ?_
  refine lv_icmp_ne (tgt := 12) hx hb dX0_isReading_5 (by decide) (fun c_1 => ?_) (fun c_1 => ?_)
  · skip
    rw [if_neg c_1] at hF
    refine lv_iconst (v := 0) hx hb dX0_isReading_12 (by decide) ?_
    exact hQ false false _ _ _ _ dX0_isReading_13 ⟨hF.symm, rfl⟩ hP hD hS
  · skip
    rw [if_pos c_1] at hF
    refine lv_iconst (v := 1) hx hb dX0_isReading_8 (by decide) ?_
    refine lv_goto (tgt := 13) hx hb dX0_isReading_9 (by decide) ?_
    exact hQ true true _ _ _ _ dX0_isReading_13 ⟨hF.symm, rfl⟩ hP hD hS
theorem cv_X0_isReading : qV yX0_isReading cX0_isReading 1 (some .boolean) 0 := ⟨kc_X0_isReading, kt_X0_isReading, ks_X0_isReading, kn_X0, by decide, by decide +kernel⟩
def f_X0_flagged (o_this : Bool × Bool × Int32 × Int32 × Int32 × Bool × Bool × Bool × Int32 × Int32 × Int32 × Int32 × Int32) (p1 : Int32) : Bool := (if (o_this.2.2.2.2.2.2.2.2.2.1 &&& p1) = 0 then false else true)
set_option maxHeartbeats 4000000 in
set_option maxRecDepth 100000 in
theorem c_X0_flagged (l : Launch) (D : va_G) (a_this a_this_reader a_this_printer : Nat) (o_this : Bool × Bool × Int32 × Int32 × Int32 × Bool × Bool × Bool × Int32 × Int32 × Int32 × Int32 × Int32) (p1 : Int32) : CtI l yX0_flagged cX0_flagged 2 (some .boolean) { frames := 0, cells := 0, slots := 0, locals := 0 } D [.ref a_this, .int p1] [(a_this, oX0 a_this_reader a_this_printer o_this)] [] (fun (r : Int32) (u : Bool) => f_X0_flagged o_this p1 = u ∧ r = bI u) (fun u => [(a_this, oX0 a_this_reader a_this_printer o_this)]) := by
  refine CtI.ofZ (by decide) (Nat.le_of_ble_eq_true rfl) ?_
  intro p e s m below meth c A ls Q hE hP hD hS hl hQ
  obtain ⟨hx, hb, hml, hown, ht, hN, hK, hA⟩ := hE
  have hown : s.vm.findClass RX0 = some m.cls := hown
  have hl : lv_has ls 2 [(0, .ref a_this), (1, .int p1)] := hl
  obtain ⟨F, hF⟩ : ∃ F, f_X0_flagged o_this p1 = F := ⟨_, rfl⟩
  rw [hF] at hQ
  unfold f_X0_flagged at hF
  refine lv_aload_n hx hb dX0_flagged_0 rfl (lv_at hl 0 rfl) ?_
  refine gf_X0_85 (v := .int o_this.2.2.2.2.2.2.2.2.2.1) hx hb hown ht hK hP 0 rfl rfl dX0_flagged_1 ?_
  refine lv_iload_n hx hb dX0_flagged_4 rfl (lv_at hl 1 rfl) ?_
  refine lv_iand hx hb dX0_flagged_5 ?_
  refine lv_if_eq (tgt := 13) hx hb dX0_flagged_6 (by decide) (fun c_1 => ?_) (fun c_1 => ?_)
  · skip
    rw [if_pos c_1] at hF
    refine lv_iconst (v := 0) hx hb dX0_flagged_13 (by decide) ?_
    exact hQ false false _ _ _ _ dX0_flagged_14 ⟨hF.symm, rfl⟩ hP hD hS
  · skip
    rw [if_neg c_1] at hF
    refine lv_iconst (v := 1) hx hb dX0_flagged_9 (by decide) ?_
    refine lv_goto (tgt := 14) hx hb dX0_flagged_10 (by decide) ?_
    exact hQ true true _ _ _ _ dX0_flagged_14 ⟨hF.symm, rfl⟩ hP hD hS
theorem cv_X0_flagged : qV yX0_flagged cX0_flagged 2 (some .boolean) 1 := ⟨kc_X0_flagged, kt_X0_flagged, ks_X0_flagged, kn_X0, by decide, by decide +kernel⟩
def f_X0_end (o_this : Bool × Bool × Int32 × Int32 × Int32 × Bool × Bool × Bool × Int32 × Int32 × Int32 × Int32 × Int32) (p1 : Int32) (p2 : Int32) : Bool × Bool × Int32 × Int32 × Int32 × Bool × Bool × Bool × Int32 × Int32 × Int32 × Int32 × Int32 := (false, true, o_this.2.2.1, o_this.2.2.2.1, o_this.2.2.2.2.1, o_this.2.2.2.2.2.1, o_this.2.2.2.2.2.2.1, o_this.2.2.2.2.2.2.2.1, o_this.2.2.2.2.2.2.2.2.1, o_this.2.2.2.2.2.2.2.2.2.1, o_this.2.2.2.2.2.2.2.2.2.2.1, p1, p2)
set_option maxHeartbeats 4000000 in
set_option maxRecDepth 100000 in
theorem c_X0_end (l : Launch) (D : va_G) (a_this a_this_reader a_this_printer : Nat) (o_this : Bool × Bool × Int32 × Int32 × Int32 × Bool × Bool × Bool × Int32 × Int32 × Int32 × Int32 × Int32) (p1 : Int32) (p2 : Int32) : CtV l yX0_end cX0_end 3 none { frames := 0, cells := 0, slots := 0, locals := 0 } D [.ref a_this, .int p1, .int p2] [(a_this, oX0 a_this_reader a_this_printer o_this)] [] (fun (u : Bool × Bool × Int32 × Int32 × Int32 × Bool × Bool × Bool × Int32 × Int32 × Int32 × Int32 × Int32) => f_X0_end o_this p1 p2 = u) (fun u => [(a_this, oX0 a_this_reader a_this_printer u)]) := by
  refine CtV.of (by decide) (Nat.le_of_ble_eq_true rfl) ?_
  intro p e s m below meth c A ls Q hE hP hD hS hl hQ
  obtain ⟨hx, hb, hml, hown, ht, hN, hK, hA⟩ := hE
  have hown : s.vm.findClass RX0 = some m.cls := hown
  have hl : lv_has ls 3 [(0, .ref a_this), (1, .int p1), (2, .int p2)] := hl
  obtain ⟨F, hF⟩ : ∃ F, f_X0_end o_this p1 p2 = F := ⟨_, rfl⟩
  rw [hF] at hQ
  unfold f_X0_end at hF
  refine lv_aload_n hx hb dX0_end_0 rfl (lv_at hl 0 rfl) ?_
  refine lv_iload_n hx hb dX0_end_1 rfl (lv_at hl 1 rfl) ?_
  refine pf_X0_138 (x := p1) hx hb hown ht hK hP hD hS 0 rfl (Nat.le_of_ble_eq_true rfl) dX0_end_2 (fun H locs hP hD hS => ?_)
  have hP : va_P D vwCl [(a_this, oX0 a_this_reader a_this_printer (o_this.1, o_this.2.1, o_this.2.2.1, o_this.2.2.2.1, o_this.2.2.2.2.1, o_this.2.2.2.2.2.1, o_this.2.2.2.2.2.2.1, o_this.2.2.2.2.2.2.2.1, o_this.2.2.2.2.2.2.2.2.1, o_this.2.2.2.2.2.2.2.2.2.1, o_this.2.2.2.2.2.2.2.2.2.2.1, p1, o_this.2.2.2.2.2.2.2.2.2.2.2.2))] H := hP
  have hD : va_D A [(a_this, oX0 a_this_reader a_this_printer (o_this.1, o_this.2.1, o_this.2.2.1, o_this.2.2.2.1, o_this.2.2.2.2.1, o_this.2.2.2.2.2.1, o_this.2.2.2.2.2.2.1, o_this.2.2.2.2.2.2.2.1, o_this.2.2.2.2.2.2.2.2.1, o_this.2.2.2.2.2.2.2.2.2.1, o_this.2.2.2.2.2.2.2.2.2.2.1, p1, o_this.2.2.2.2.2.2.2.2.2.2.2.2))] := hD
  refine lv_aload_n hx hb dX0_end_5 rfl (lv_at hl 0 rfl) ?_
  refine lv_iload_n hx hb dX0_end_6 rfl (lv_at hl 2 rfl) ?_
  refine pf_X0_141 (x := p2) hx hb hown ht hK hP hD hS 0 rfl (Nat.le_of_ble_eq_true rfl) dX0_end_7 (fun H locs hP hD hS => ?_)
  have hP : va_P D vwCl [(a_this, oX0 a_this_reader a_this_printer (o_this.1, o_this.2.1, o_this.2.2.1, o_this.2.2.2.1, o_this.2.2.2.2.1, o_this.2.2.2.2.2.1, o_this.2.2.2.2.2.2.1, o_this.2.2.2.2.2.2.2.1, o_this.2.2.2.2.2.2.2.2.1, o_this.2.2.2.2.2.2.2.2.2.1, o_this.2.2.2.2.2.2.2.2.2.2.1, p1, p2))] H := hP
  have hD : va_D A [(a_this, oX0 a_this_reader a_this_printer (o_this.1, o_this.2.1, o_this.2.2.1, o_this.2.2.2.1, o_this.2.2.2.2.1, o_this.2.2.2.2.2.1, o_this.2.2.2.2.2.2.1, o_this.2.2.2.2.2.2.2.1, o_this.2.2.2.2.2.2.2.2.1, o_this.2.2.2.2.2.2.2.2.2.1, o_this.2.2.2.2.2.2.2.2.2.2.1, p1, p2))] := hD
  refine lv_aload_n hx hb dX0_end_10 rfl (lv_at hl 0 rfl) ?_
  refine lv_iconst (v := 0) hx hb dX0_end_11 (by decide) ?_
  refine pf_X0_25 (x := false) hx hb hown ht hK hP hD hS 0 rfl (Nat.le_of_ble_eq_true rfl) dX0_end_12 (fun H locs hP hD hS => ?_)
  have hP : va_P D vwCl [(a_this, oX0 a_this_reader a_this_printer (false, o_this.2.1, o_this.2.2.1, o_this.2.2.2.1, o_this.2.2.2.2.1, o_this.2.2.2.2.2.1, o_this.2.2.2.2.2.2.1, o_this.2.2.2.2.2.2.2.1, o_this.2.2.2.2.2.2.2.2.1, o_this.2.2.2.2.2.2.2.2.2.1, o_this.2.2.2.2.2.2.2.2.2.2.1, p1, p2))] H := hP
  have hD : va_D A [(a_this, oX0 a_this_reader a_this_printer (false, o_this.2.1, o_this.2.2.1, o_this.2.2.2.1, o_this.2.2.2.2.1, o_this.2.2.2.2.2.1, o_this.2.2.2.2.2.2.1, o_this.2.2.2.2.2.2.2.1, o_this.2.2.2.2.2.2.2.2.1, o_this.2.2.2.2.2.2.2.2.2.1, o_this.2.2.2.2.2.2.2.2.2.2.1, p1, p2))] := hD
  refine lv_aload_n hx hb dX0_end_15 rfl (lv_at hl 0 rfl) ?_
  refine lv_iconst (v := 1) hx hb dX0_end_16 (by decide) ?_
  refine pf_X0_29 (x := true) hx hb hown ht hK hP hD hS 0 rfl (Nat.le_of_ble_eq_true rfl) dX0_end_17 (fun H locs hP hD hS => ?_)
  have hP : va_P D vwCl [(a_this, oX0 a_this_reader a_this_printer (false, true, o_this.2.2.1, o_this.2.2.2.1, o_this.2.2.2.2.1, o_this.2.2.2.2.2.1, o_this.2.2.2.2.2.2.1, o_this.2.2.2.2.2.2.2.1, o_this.2.2.2.2.2.2.2.2.1, o_this.2.2.2.2.2.2.2.2.2.1, o_this.2.2.2.2.2.2.2.2.2.2.1, p1, p2))] H := hP
  have hD : va_D A [(a_this, oX0 a_this_reader a_this_printer (false, true, o_this.2.2.1, o_this.2.2.2.1, o_this.2.2.2.2.1, o_this.2.2.2.2.2.1, o_this.2.2.2.2.2.2.1, o_this.2.2.2.2.2.2.2.1, o_this.2.2.2.2.2.2.2.2.1, o_this.2.2.2.2.2.2.2.2.2.1, o_this.2.2.2.2.2.2.2.2.2.2.1, p1, p2))] := hD
  exact hQ (false, true, o_this.2.2.1, o_this.2.2.2.1, o_this.2.2.2.2.1, o_this.2.2.2.2.2.1, o_this.2.2.2.2.2.2.1, o_this.2.2.2.2.2.2.2.1, o_this.2.2.2.2.2.2.2.2.1, o_this.2.2.2.2.2.2.2.2.2.1, o_this.2.2.2.2.2.2.2.2.2.2.1, p1, p2) _ _ _ _ dX0_end_20 hF.symm hP hD hS
theorem cv_X0_end : qV yX0_end cX0_end 3 none 2 := ⟨kc_X0_end, kt_X0_end, ks_X0_end, kn_X0, by decide, by decide +kernel⟩
def f_X0_isTakeable (o_this : Bool × Bool × Int32 × Int32 × Int32 × Bool × Bool × Bool × Int32 × Int32 × Int32 × Int32 × Int32) (p1 : Int32) : Bool := (if p1 = (8 : Int32) then (if o_this.2.2.2.2.2.2.2.1 = true then false else true) else (if o_this.2.2.2.2.2.2.2.2.2.2.1 = 0 then false else (if o_this.2.2.2.2.2.2.1 = true then true else (if (f_X0_isReading o_this) = true then (if p1 = (2 : Int32) then true else false) else (if p1 = (1 : Int32) then true else false)))))
set_option maxHeartbeats 4000000 in
set_option maxRecDepth 100000 in
theorem c_X0_isTakeable (l : Launch) (D : va_G) (a_this a_this_reader a_this_printer : Nat) (o_this : Bool × Bool × Int32 × Int32 × Int32 × Bool × Bool × Bool × Int32 × Int32 × Int32 × Int32 × Int32) (p1 : Int32) : CtI l yX0_isTakeable cX0_isTakeable 2 (some .boolean) { frames := 1, cells := 0, slots := 0, locals := 20 } D [.ref a_this, .int p1] [(a_this, oX0 a_this_reader a_this_printer o_this)] [] (fun (r : Int32) (u : Bool) => f_X0_isTakeable o_this p1 = u ∧ r = bI u) (fun u => [(a_this, oX0 a_this_reader a_this_printer o_this)]) := by
  refine CtI.ofZ (by decide) (Nat.le_of_ble_eq_true rfl) ?_
  intro p e s m below meth c A ls Q hE hP hD hS hl hQ
  obtain ⟨hx, hb, hml, hown, ht, hN, hK, hA⟩ := hE
  have hown : s.vm.findClass RX0 = some m.cls := hown
  have hl : lv_has ls 2 [(0, .ref a_this), (1, .int p1)] := hl
  obtain ⟨F, hF⟩ : ∃ F, f_X0_isTakeable o_this p1 = F := ⟨_, rfl⟩
  rw [hF] at hQ
  unfold f_X0_isTakeable at hF
  refine lv_iload_n hx hb dX0_isTakeable_0 rfl (lv_at hl 1 rfl) ?_
  refine lv_bipush (v := 8) hx hb dX0_isTakeable_1 (by decide) ?_
  refine lv_icmp_ne (tgt := 19) hx hb dX0_isTakeable_3 (by decide) (fun c_1 => ?_) (fun c_1 => ?_)
  · skip
    rw [if_neg c_1] at hF
    refine lv_aload_n hx hb dX0_isTakeable_19 rfl (lv_at hl 0 rfl) ?_
    refine gf_X0_72 (v := .int o_this.2.2.2.2.2.2.2.2.2.2.1) hx hb hown ht hK hP 0 rfl rfl dX0_isTakeable_20 ?_
    refine lv_if_eq (tgt := 53) hx hb dX0_isTakeable_23 (by decide) (fun c_2 => ?_) (fun c_2 => ?_)
    · skip
      rw [if_pos c_2] at hF
      refine lv_iconst (v := 0) hx hb dX0_isTakeable_53 (by decide) ?_
      exact hQ false false _ _ _ _ dX0_isTakeable_54 ⟨hF.symm, rfl⟩ hP hD hS
    · skip
      rw [if_neg c_2] at hF
      refine lv_aload_n hx hb dX0_isTakeable_26 rfl (lv_at hl 0 rfl) ?_
      refine gf_X0_52 (v := .int (bI o_this.2.2.2.2.2.2.1)) hx hb hown ht hK hP 0 rfl rfl dX0_isTakeable_27 ?_
      refine lv_if_ne (tgt := 49) hx hb dX0_isTakeable_30 (by decide) (fun c_3 => ?_) (fun c_3 => ?_)
      · have c_3 := (bI_ne0 _).mp c_3
        rw [if_pos c_3] at hF
        refine lv_iconst (v := 1) hx hb dX0_isTakeable_49 (by decide) ?_
        refine lv_goto (tgt := 54) hx hb dX0_isTakeable_50 (by decide) ?_
        exact hQ true true _ _ _ _ dX0_isTakeable_54 ⟨hF.symm, rfl⟩ hP hD hS
      · have c_3 : ¬ o_this.2.2.2.2.2.2.1 = true := by rw [(bI_eq0 _).mp c_3]; decide
        rw [if_neg c_3] at hF
        refine lv_iload_n hx hb dX0_isTakeable_33 rfl (lv_at hl 1 rfl) ?_
        refine lv_aload_n hx hb dX0_isTakeable_34 rfl (lv_at hl 0 rfl) ?_
        refine q_Vi (rest := [.int p1]) (c_X0_isReading l D a_this a_this_reader a_this_printer o_this) cv_X0_isReading hx hb hml hown ht hN hK hA hP hD hS hl.1 (km_X0_98) ⟨Nat.le_of_ble_eq_true rfl, Nat.le_of_ble_eq_true rfl⟩ rfl rfl [0] (by decide) rfl [] rfl (fun _ => rfl) (ci := 0) rfl rfl rfl rfl rfl (Nat.le_of_ble_eq_true rfl) dX0_isTakeable_35 ⟨Nat.zero_le _, Nat.zero_le _⟩ (fun r u H locs hw hP hD hS => ?_)
        obtain ⟨rfl, rfl⟩ := hw
        have hP : va_P D vwCl [(a_this, oX0 a_this_reader a_this_printer o_this)] H := hP
        have hD : va_D A [(a_this, oX0 a_this_reader a_this_printer o_this)] := hD
        refine lv_if_eq (tgt := 45) hx hb dX0_isTakeable_38 (by decide) (fun c_5 => ?_) (fun c_5 => ?_)
        · have c_5 : ¬ (f_X0_isReading o_this) = true := by rw [(bI_eq0 _).mp c_5]; decide
          rw [if_neg c_5] at hF
          refine lv_iconst (v := 1) hx hb dX0_isTakeable_45 (by decide) ?_
          refine lv_icmp_ne (tgt := 53) hx hb dX0_isTakeable_46 (by decide) (fun c_6 => ?_) (fun c_6 => ?_)
          · skip
            rw [if_neg c_6] at hF
            refine lv_iconst (v := 0) hx hb dX0_isTakeable_53 (by decide) ?_
            exact hQ false false _ _ _ _ dX0_isTakeable_54 ⟨hF.symm, rfl⟩ hP hD hS
          · skip
            rw [if_pos c_6] at hF
            refine lv_iconst (v := 1) hx hb dX0_isTakeable_49 (by decide) ?_
            refine lv_goto (tgt := 54) hx hb dX0_isTakeable_50 (by decide) ?_
            exact hQ true true _ _ _ _ dX0_isTakeable_54 ⟨hF.symm, rfl⟩ hP hD hS
        · have c_5 := (bI_ne0 _).mp c_5
          rw [if_pos c_5] at hF
          refine lv_iconst (v := 2) hx hb dX0_isTakeable_41 (by decide) ?_
          refine lv_goto (tgt := 46) hx hb dX0_isTakeable_42 (by decide) ?_
          refine lv_icmp_ne (tgt := 53) hx hb dX0_isTakeable_46 (by decide) (fun c_7 => ?_) (fun c_7 => ?_)
          · skip
            rw [if_neg c_7] at hF
            refine lv_iconst (v := 0) hx hb dX0_isTakeable_53 (by decide) ?_
            exact hQ false false _ _ _ _ dX0_isTakeable_54 ⟨hF.symm, rfl⟩ hP hD hS
          · skip
            rw [if_pos c_7] at hF
            refine lv_iconst (v := 1) hx hb dX0_isTakeable_49 (by decide) ?_
            refine lv_goto (tgt := 54) hx hb dX0_isTakeable_50 (by decide) ?_
            exact hQ true true _ _ _ _ dX0_isTakeable_54 ⟨hF.symm, rfl⟩ hP hD hS
  · skip
    rw [if_pos c_1] at hF
    refine lv_aload_n hx hb dX0_isTakeable_6 rfl (lv_at hl 0 rfl) ?_
    refine gf_X0_55 (v := .int (bI o_this.2.2.2.2.2.2.2.1)) hx hb hown ht hK hP 0 rfl rfl dX0_isTakeable_7 ?_
    refine lv_if_ne (tgt := 17) hx hb dX0_isTakeable_10 (by decide) (fun c_8 => ?_) (fun c_8 => ?_)
    · have c_8 := (bI_ne0 _).mp c_8
      rw [if_pos c_8] at hF
      refine lv_iconst (v := 0) hx hb dX0_isTakeable_17 (by decide) ?_
      exact hQ false false _ _ _ _ dX0_isTakeable_18 ⟨hF.symm, rfl⟩ hP hD hS
    · have c_8 : ¬ o_this.2.2.2.2.2.2.2.1 = true := by rw [(bI_eq0 _).mp c_8]; decide
      rw [if_neg c_8] at hF
      refine lv_iconst (v := 1) hx hb dX0_isTakeable_13 (by decide) ?_
      refine lv_goto (tgt := 18) hx hb dX0_isTakeable_14 (by decide) ?_
      exact hQ true true _ _ _ _ dX0_isTakeable_18 ⟨hF.symm, rfl⟩ hP hD hS
theorem cv_X0_isTakeable : qV yX0_isTakeable cX0_isTakeable 2 (some .boolean) 1 := ⟨kc_X0_isTakeable, kt_X0_isTakeable, ks_X0_isTakeable, kn_X0, by decide, by decide +kernel⟩
def f_X0_finishCommand (o_this : Bool × Bool × Int32 × Int32 × Int32 × Bool × Bool × Bool × Int32 × Int32 × Int32 × Int32 × Int32) (o_this_reader : Int32 × Int32 × Int32 × Int32 × Int32) : Bool × Bool × Int32 × Int32 × Int32 × Bool × Bool × Bool × Int32 × Int32 × Int32 × Int32 × Int32 := (if (f_X0_isReading (o_this.1, o_this.2.1, o_this.2.2.1, o_this.2.2.2.1, o_this.2.2.2.2.1, false, false, o_this.2.2.2.2.2.2.2.1, o_this.2.2.2.2.2.2.2.2.1, o_this.2.2.2.2.2.2.2.2.2.1, o_this.2.2.2.2.2.2.2.2.2.2.1, o_this.2.2.2.2.2.2.2.2.2.2.2.1, o_this.2.2.2.2.2.2.2.2.2.2.2.2)) = true then (if o_this.2.2.2.2.2.2.2.2.2.2.1 = 0 then (if (f_X4_isAtEnd o_this_reader) = true then (if (f_X0_flagged (o_this.1, o_this.2.1, o_this.2.2.1, o_this.2.2.2.1, o_this.2.2.2.2.1, false, false, o_this.2.2.2.2.2.2.2.1, o_this.2.2.2.2.2.2.2.2.1, o_this.2.2.2.2.2.2.2.2.2.1, o_this.2.2.2.2.2.2.2.2.2.2.1, o_this.2.2.2.2.2.2.2.2.2.2.2.1, o_this.2.2.2.2.2.2.2.2.2.2.2.2) 64) = true then (o_this.1, o_this.2.1, o_this.2.2.1, o_this.2.2.2.1, o_this.2.2.2.2.1, false, false, o_this.2.2.2.2.2.2.2.1, o_this.2.2.2.2.2.2.2.2.1, o_this.2.2.2.2.2.2.2.2.2.1, o_this.2.2.2.2.2.2.2.2.2.2.1, o_this.2.2.2.2.2.2.2.2.2.2.2.1, o_this.2.2.2.2.2.2.2.2.2.2.2.2) else (match f_X0_end (o_this.1, o_this.2.1, o_this.2.2.1, o_this.2.2.2.1, o_this.2.2.2.2.1, false, false, o_this.2.2.2.2.2.2.2.1, o_this.2.2.2.2.2.2.2.2.1, o_this.2.2.2.2.2.2.2.2.2.1, o_this.2.2.2.2.2.2.2.2.2.2.1, o_this.2.2.2.2.2.2.2.2.2.2.2.1, o_this.2.2.2.2.2.2.2.2.2.2.2.2) 12 0 with | o_this_20 => o_this_20)) else (if (f_X0_flagged (o_this.1, o_this.2.1, o_this.2.2.1, o_this.2.2.2.1, o_this.2.2.2.2.1, false, false, o_this.2.2.2.2.2.2.2.1, o_this.2.2.2.2.2.2.2.2.1, o_this.2.2.2.2.2.2.2.2.2.1, o_this.2.2.2.2.2.2.2.2.2.2.1, o_this.2.2.2.2.2.2.2.2.2.2.2.1, o_this.2.2.2.2.2.2.2.2.2.2.2.2) 32) = true then (if (f_X0_flagged (o_this.1, o_this.2.1, o_this.2.2.1, o_this.2.2.2.1, o_this.2.2.2.2.1, false, false, o_this.2.2.2.2.2.2.2.1, o_this.2.2.2.2.2.2.2.2.1, o_this.2.2.2.2.2.2.2.2.2.1, o_this.2.2.2.2.2.2.2.2.2.2.1, o_this.2.2.2.2.2.2.2.2.2.2.2.1, o_this.2.2.2.2.2.2.2.2.2.2.2.2) 64) = true then (o_this.1, o_this.2.1, o_this.2.2.1, o_this.2.2.2.1, o_this.2.2.2.2.1, false, false, o_this.2.2.2.2.2.2.2.1, o_this.2.2.2.2.2.2.2.2.1, o_this.2.2.2.2.2.2.2.2.2.1, o_this.2.2.2.2.2.2.2.2.2.2.1, o_this.2.2.2.2.2.2.2.2.2.2.2.1, o_this.2.2.2.2.2.2.2.2.2.2.2.2) else (match f_X0_end (o_this.1, o_this.2.1, o_this.2.2.1, o_this.2.2.2.1, o_this.2.2.2.2.1, false, false, o_this.2.2.2.2.2.2.2.1, o_this.2.2.2.2.2.2.2.2.1, o_this.2.2.2.2.2.2.2.2.2.1, o_this.2.2.2.2.2.2.2.2.2.2.1, o_this.2.2.2.2.2.2.2.2.2.2.2.1, o_this.2.2.2.2.2.2.2.2.2.2.2.2) 12 0 with | o_this_26 => o_this_26)) else (match f_X0_end (o_this.1, o_this.2.1, o_this.2.2.1, o_this.2.2.2.1, o_this.2.2.2.2.1, false, false, o_this.2.2.2.2.2.2.2.1, o_this.2.2.2.2.2.2.2.2.1, o_this.2.2.2.2.2.2.2.2.2.1, o_this.2.2.2.2.2.2.2.2.2.2.1, o_this.2.2.2.2.2.2.2.2.2.2.2.1, o_this.2.2.2.2.2.2.2.2.2.2.2.2) 12 64 with | o_this_27 => o_this_27))) else (if (f_X0_flagged (o_this.1, o_this.2.1, o_this.2.2.1, o_this.2.2.2.1, o_this.2.2.2.2.1, false, false, o_this.2.2.2.2.2.2.2.1, o_this.2.2.2.2.2.2.2.2.1, o_this.2.2.2.2.2.2.2.2.2.1, o_this.2.2.2.2.2.2.2.2.2.2.1, o_this.2.2.2.2.2.2.2.2.2.2.2.1, o_this.2.2.2.2.2.2.2.2.2.2.2.2) 32) = true then (if (f_X0_flagged (o_this.1, o_this.2.1, o_this.2.2.1, o_this.2.2.2.1, o_this.2.2.2.2.1, false, false, o_this.2.2.2.2.2.2.2.1, o_this.2.2.2.2.2.2.2.2.1, o_this.2.2.2.2.2.2.2.2.2.1, o_this.2.2.2.2.2.2.2.2.2.2.1, o_this.2.2.2.2.2.2.2.2.2.2.2.1, o_this.2.2.2.2.2.2.2.2.2.2.2.2) 64) = true then (o_this.1, o_this.2.1, o_this.2.2.1, o_this.2.2.2.1, o_this.2.2.2.2.1, false, false, o_this.2.2.2.2.2.2.2.1, o_this.2.2.2.2.2.2.2.2.1, o_this.2.2.2.2.2.2.2.2.2.1, o_this.2.2.2.2.2.2.2.2.2.2.1, o_this.2.2.2.2.2.2.2.2.2.2.2.1, o_this.2.2.2.2.2.2.2.2.2.2.2.2) else (match f_X0_end (o_this.1, o_this.2.1, o_this.2.2.1, o_this.2.2.2.1, o_this.2.2.2.2.1, false, false, o_this.2.2.2.2.2.2.2.1, o_this.2.2.2.2.2.2.2.2.1, o_this.2.2.2.2.2.2.2.2.2.1, o_this.2.2.2.2.2.2.2.2.2.2.1, o_this.2.2.2.2.2.2.2.2.2.2.2.1, o_this.2.2.2.2.2.2.2.2.2.2.2.2) 12 0 with | o_this_13 => o_this_13)) else (match f_X0_end (o_this.1, o_this.2.1, o_this.2.2.1, o_this.2.2.2.1, o_this.2.2.2.2.1, false, false, o_this.2.2.2.2.2.2.2.1, o_this.2.2.2.2.2.2.2.2.1, o_this.2.2.2.2.2.2.2.2.2.1, o_this.2.2.2.2.2.2.2.2.2.2.1, o_this.2.2.2.2.2.2.2.2.2.2.2.1, o_this.2.2.2.2.2.2.2.2.2.2.2.2) 12 64 with | o_this_14 => o_this_14))) else (if (f_X0_flagged (o_this.1, o_this.2.1, o_this.2.2.1, o_this.2.2.2.1, o_this.2.2.2.2.1, false, false, o_this.2.2.2.2.2.2.2.1, o_this.2.2.2.2.2.2.2.2.1, o_this.2.2.2.2.2.2.2.2.2.1, o_this.2.2.2.2.2.2.2.2.2.2.1, o_this.2.2.2.2.2.2.2.2.2.2.2.1, o_this.2.2.2.2.2.2.2.2.2.2.2.2) 64) = true then (o_this.1, o_this.2.1, o_this.2.2.1, o_this.2.2.2.1, o_this.2.2.2.2.1, false, false, o_this.2.2.2.2.2.2.2.1, o_this.2.2.2.2.2.2.2.2.1, o_this.2.2.2.2.2.2.2.2.2.1, o_this.2.2.2.2.2.2.2.2.2.2.1, o_this.2.2.2.2.2.2.2.2.2.2.2.1, o_this.2.2.2.2.2.2.2.2.2.2.2.2) else (match f_X0_end (o_this.1, o_this.2.1, o_this.2.2.1, o_this.2.2.2.1, o_this.2.2.2.2.1, false, false, o_this.2.2.2.2.2.2.2.1, o_this.2.2.2.2.2.2.2.2.1, o_this.2.2.2.2.2.2.2.2.2.1, o_this.2.2.2.2.2.2.2.2.2.2.1, o_this.2.2.2.2.2.2.2.2.2.2.2.1, o_this.2.2.2.2.2.2.2.2.2.2.2.2) 12 0 with | o_this_6 => o_this_6)))
set_option maxHeartbeats 4000000 in
set_option maxRecDepth 100000 in
theorem c_X0_finishCommand (l : Launch) (D : va_G) (a_this a_this_reader a_this_printer a_this_reader_making a_this_reader_queue a_this_reader_lengths a_this_reader_record : Nat) (o_this : Bool × Bool × Int32 × Int32 × Int32 × Bool × Bool × Bool × Int32 × Int32 × Int32 × Int32 × Int32) (o_this_reader : Int32 × Int32 × Int32 × Int32 × Int32) : CtV l yX0_finishCommand cX0_finishCommand 2 none { frames := 1, cells := 0, slots := 0, locals := 22 } D [.ref a_this] [(a_this, oX0 a_this_reader a_this_printer o_this), (a_this_reader, oX4 a_this_reader_making a_this_reader_queue a_this_reader_lengths a_this_reader_record o_this_reader)] [] (fun (u : Bool × Bool × Int32 × Int32 × Int32 × Bool × Bool × Bool × Int32 × Int32 × Int32 × Int32 × Int32) => f_X0_finishCommand o_this o_this_reader = u) (fun u => [(a_this, oX0 a_this_reader a_this_printer u), (a_this_reader, oX4 a_this_reader_making a_this_reader_queue a_this_reader_lengths a_this_reader_record o_this_reader)]) := by
  refine CtV.of (by decide) (Nat.le_of_ble_eq_true rfl) ?_
  intro p e s m below meth c A ls Q hE hP hD hS hl hQ
  obtain ⟨hx, hb, hml, hown, ht, hN, hK, hA⟩ := hE
  have hown : s.vm.findClass RX0 = some m.cls := hown
  have hl : lv_has ls 2 [(0, .ref a_this)] := hl
  obtain ⟨F, hF⟩ : ∃ F, f_X0_finishCommand o_this o_this_reader = F := ⟨_, rfl⟩
  rw [hF] at hQ
  unfold f_X0_finishCommand at hF
  refine lv_aload_n hx hb dX0_finishCommand_0 rfl (lv_at hl 0 rfl) ?_
  refine lv_iconst (v := 0) hx hb dX0_finishCommand_1 (by decide) ?_
  refine pf_X0_49 (x := false) hx hb hown ht hK hP hD hS 0 rfl (Nat.le_of_ble_eq_true rfl) dX0_finishCommand_2 (fun H locs hP hD hS => ?_)
  have hP : va_P D vwCl [(a_this, oX0 a_this_reader a_this_printer (o_this.1, o_this.2.1, o_this.2.2.1, o_this.2.2.2.1, o_this.2.2.2.2.1, false, o_this.2.2.2.2.2.2.1, o_this.2.2.2.2.2.2.2.1, o_this.2.2.2.2.2.2.2.2.1, o_this.2.2.2.2.2.2.2.2.2.1, o_this.2.2.2.2.2.2.2.2.2.2.1, o_this.2.2.2.2.2.2.2.2.2.2.2.1, o_this.2.2.2.2.2.2.2.2.2.2.2.2)), (a_this_reader, oX4 a_this_reader_making a_this_reader_queue a_this_reader_lengths a_this_reader_record o_this_reader)] H := hP
  have hD : va_D A [(a_this, oX0 a_this_reader a_this_printer (o_this.1, o_this.2.1, o_this.2.2.1, o_this.2.2.2.1, o_this.2.2.2.2.1, false, o_this.2.2.2.2.2.2.1, o_this.2.2.2.2.2.2.2.1, o_this.2.2.2.2.2.2.2.2.1, o_this.2.2.2.2.2.2.2.2.2.1, o_this.2.2.2.2.2.2.2.2.2.2.1, o_this.2.2.2.2.2.2.2.2.2.2.2.1, o_this.2.2.2.2.2.2.2.2.2.2.2.2)), (a_this_reader, oX4 a_this_reader_making a_this_reader_queue a_this_reader_lengths a_this_reader_record o_this_reader)] := hD
  refine lv_aload_n hx hb dX0_finishCommand_5 rfl (lv_at hl 0 rfl) ?_
  refine lv_iconst (v := 0) hx hb dX0_finishCommand_6 (by decide) ?_
  refine pf_X0_52 (x := false) hx hb hown ht hK hP hD hS 0 rfl (Nat.le_of_ble_eq_true rfl) dX0_finishCommand_7 (fun H locs hP hD hS => ?_)
  have hP : va_P D vwCl [(a_this, oX0 a_this_reader a_this_printer (o_this.1, o_this.2.1, o_this.2.2.1, o_this.2.2.2.1, o_this.2.2.2.2.1, false, false, o_this.2.2.2.2.2.2.2.1, o_this.2.2.2.2.2.2.2.2.1, o_this.2.2.2.2.2.2.2.2.2.1, o_this.2.2.2.2.2.2.2.2.2.2.1, o_this.2.2.2.2.2.2.2.2.2.2.2.1, o_this.2.2.2.2.2.2.2.2.2.2.2.2)), (a_this_reader, oX4 a_this_reader_making a_this_reader_queue a_this_reader_lengths a_this_reader_record o_this_reader)] H := hP
  have hD : va_D A [(a_this, oX0 a_this_reader a_this_printer (o_this.1, o_this.2.1, o_this.2.2.1, o_this.2.2.2.1, o_this.2.2.2.2.1, false, false, o_this.2.2.2.2.2.2.2.1, o_this.2.2.2.2.2.2.2.2.1, o_this.2.2.2.2.2.2.2.2.2.1, o_this.2.2.2.2.2.2.2.2.2.2.1, o_this.2.2.2.2.2.2.2.2.2.2.2.1, o_this.2.2.2.2.2.2.2.2.2.2.2.2)), (a_this_reader, oX4 a_this_reader_making a_this_reader_queue a_this_reader_lengths a_this_reader_record o_this_reader)] := hD
  refine lv_aload_n hx hb dX0_finishCommand_10 rfl (lv_at hl 0 rfl) ?_
  refine q_Vi (rest := []) (c_X0_isReading l D a_this a_this_reader a_this_printer (o_this.1, o_this.2.1, o_this.2.2.1, o_this.2.2.2.1, o_this.2.2.2.2.1, false, false, o_this.2.2.2.2.2.2.2.1, o_this.2.2.2.2.2.2.2.2.1, o_this.2.2.2.2.2.2.2.2.2.1, o_this.2.2.2.2.2.2.2.2.2.2.1, o_this.2.2.2.2.2.2.2.2.2.2.2.1, o_this.2.2.2.2.2.2.2.2.2.2.2.2)) cv_X0_isReading hx hb hml hown ht hN hK hA hP hD hS hl.1 (km_X0_98) ⟨Nat.le_of_ble_eq_true rfl, Nat.le_of_ble_eq_true rfl⟩ rfl rfl [0] (by decide) rfl [] rfl (fun _ => rfl) (ci := 0) rfl rfl rfl rfl rfl (Nat.le_of_ble_eq_true rfl) dX0_finishCommand_11 ⟨Nat.zero_le _, Nat.zero_le _⟩ (fun r u H locs hw hP hD hS => ?_)
  obtain ⟨rfl, rfl⟩ := hw
  have hP : va_P D vwCl [(a_this, oX0 a_this_reader a_this_printer (o_this.1, o_this.2.1, o_this.2.2.1, o_this.2.2.2.1, o_this.2.2.2.2.1, false, false, o_this.2.2.2.2.2.2.2.1, o_this.2.2.2.2.2.2.2.2.1, o_this.2.2.2.2.2.2.2.2.2.1, o_this.2.2.2.2.2.2.2.2.2.2.1, o_this.2.2.2.2.2.2.2.2.2.2.2.1, o_this.2.2.2.2.2.2.2.2.2.2.2.2)), (a_this_reader, oX4 a_this_reader_making a_this_reader_queue a_this_reader_lengths a_this_reader_record o_this_reader)] H := hP
  have hD : va_D A [(a_this, oX0 a_this_reader a_this_printer (o_this.1, o_this.2.1, o_this.2.2.1, o_this.2.2.2.1, o_this.2.2.2.2.1, false, false, o_this.2.2.2.2.2.2.2.1, o_this.2.2.2.2.2.2.2.2.1, o_this.2.2.2.2.2.2.2.2.2.1, o_this.2.2.2.2.2.2.2.2.2.2.1, o_this.2.2.2.2.2.2.2.2.2.2.2.1, o_this.2.2.2.2.2.2.2.2.2.2.2.2)), (a_this_reader, oX4 a_this_reader_making a_this_reader_queue a_this_reader_lengths a_this_reader_record o_this_reader)] := hD
  refine lv_if_eq (tgt := 38) hx hb dX0_finishCommand_14 (by decide) (fun c_2 => ?_) (fun c_2 => ?_)
  · have c_2 : ¬ (f_X0_isReading (o_this.1, o_this.2.1, o_this.2.2.1, o_this.2.2.2.1, o_this.2.2.2.2.1, false, false, o_this.2.2.2.2.2.2.2.1, o_this.2.2.2.2.2.2.2.2.1, o_this.2.2.2.2.2.2.2.2.2.1, o_this.2.2.2.2.2.2.2.2.2.2.1, o_this.2.2.2.2.2.2.2.2.2.2.2.1, o_this.2.2.2.2.2.2.2.2.2.2.2.2)) = true := by rw [(bI_eq0 _).mp c_2]; decide
    rw [if_neg c_2] at hF
    refine lv_iconst (v := 0) hx hb dX0_finishCommand_38 (by decide) ?_
    refine lv_istore_n (lv' := [(1, .int 0), (0, .ref a_this)]) hx hb dX0_finishCommand_39 rfl hl (by decide) rfl (fun ls hl => ?_)
    refine lv_iload_n hx hb dX0_finishCommand_40 rfl (lv_at hl 0 rfl) ?_
    refine lv_if_eq (tgt := 64) hx hb dX0_finishCommand_41 (by decide) (fun c_3 => ?_) (fun c_3 => ?_)
    · skip
      refine lv_aload_n hx hb dX0_finishCommand_64 rfl (lv_at hl 1 rfl) ?_
      refine lv_bipush (v := 64) hx hb dX0_finishCommand_65 (by decide) ?_
      refine q_Vi (rest := []) (c_X0_flagged l D a_this a_this_reader a_this_printer (o_this.1, o_this.2.1, o_this.2.2.1, o_this.2.2.2.1, o_this.2.2.2.2.1, false, false, o_this.2.2.2.2.2.2.2.1, o_this.2.2.2.2.2.2.2.2.1, o_this.2.2.2.2.2.2.2.2.2.1, o_this.2.2.2.2.2.2.2.2.2.2.1, o_this.2.2.2.2.2.2.2.2.2.2.2.1, o_this.2.2.2.2.2.2.2.2.2.2.2.2) 64) cv_X0_flagged hx hb hml hown ht hN hK hA hP hD hS hl.1 (km_X0_114) ⟨Nat.le_of_ble_eq_true rfl, Nat.le_of_ble_eq_true rfl⟩ rfl rfl [0] (by decide) rfl [] rfl (fun _ => rfl) (ci := 0) rfl rfl rfl rfl rfl (Nat.le_of_ble_eq_true rfl) dX0_finishCommand_67 ⟨Nat.zero_le _, Nat.zero_le _⟩ (fun r u H locs hw hP hD hS => ?_)
      obtain ⟨rfl, rfl⟩ := hw
      have hP : va_P D vwCl [(a_this, oX0 a_this_reader a_this_printer (o_this.1, o_this.2.1, o_this.2.2.1, o_this.2.2.2.1, o_this.2.2.2.2.1, false, false, o_this.2.2.2.2.2.2.2.1, o_this.2.2.2.2.2.2.2.2.1, o_this.2.2.2.2.2.2.2.2.2.1, o_this.2.2.2.2.2.2.2.2.2.2.1, o_this.2.2.2.2.2.2.2.2.2.2.2.1, o_this.2.2.2.2.2.2.2.2.2.2.2.2)), (a_this_reader, oX4 a_this_reader_making a_this_reader_queue a_this_reader_lengths a_this_reader_record o_this_reader)] H := hP
      have hD : va_D A [(a_this, oX0 a_this_reader a_this_printer (o_this.1, o_this.2.1, o_this.2.2.1, o_this.2.2.2.1, o_this.2.2.2.2.1, false, false, o_this.2.2.2.2.2.2.2.1, o_this.2.2.2.2.2.2.2.2.1, o_this.2.2.2.2.2.2.2.2.2.1, o_this.2.2.2.2.2.2.2.2.2.2.1, o_this.2.2.2.2.2.2.2.2.2.2.2.1, o_this.2.2.2.2.2.2.2.2.2.2.2.2)), (a_this_reader, oX4 a_this_reader_making a_this_reader_queue a_this_reader_lengths a_this_reader_record o_this_reader)] := hD
      refine lv_if_ne (tgt := 80) hx hb dX0_finishCommand_70 (by decide) (fun c_5 => ?_) (fun c_5 => ?_)
      · have c_5 := (bI_ne0 _).mp c_5
        rw [if_pos c_5] at hF
        exact hQ (o_this.1, o_this.2.1, o_this.2.2.1, o_this.2.2.2.1, o_this.2.2.2.2.1, false, false, o_this.2.2.2.2.2.2.2.1, o_this.2.2.2.2.2.2.2.2.1, o_this.2.2.2.2.2.2.2.2.2.1, o_this.2.2.2.2.2.2.2.2.2.2.1, o_this.2.2.2.2.2.2.2.2.2.2.2.1, o_this.2.2.2.2.2.2.2.2.2.2.2.2) _ _ _ _ dX0_finishCommand_80 hF.symm hP hD hS
      · have c_5 : ¬ (f_X0_flagged (o_this.1, o_this.2.1, o_this.2.2.1, o_this.2.2.2.1, o_this.2.2.2.2.1, false, false, o_this.2.2.2.2.2.2.2.1, o_this.2.2.2.2.2.2.2.2.1, o_this.2.2.2.2.2.2.2.2.2.1, o_this.2.2.2.2.2.2.2.2.2.2.1, o_this.2.2.2.2.2.2.2.2.2.2.2.1, o_this.2.2.2.2.2.2.2.2.2.2.2.2) 64) = true := by rw [(bI_eq0 _).mp c_5]; decide
        rw [if_neg c_5] at hF
        refine lv_aload_n hx hb dX0_finishCommand_73 rfl (lv_at hl 1 rfl) ?_
        refine lv_bipush (v := 12) hx hb dX0_finishCommand_74 (by decide) ?_
        refine lv_iconst (v := 0) hx hb dX0_finishCommand_76 (by decide) ?_
        refine q_Vv (rest := []) (c_X0_end l D a_this a_this_reader a_this_printer (o_this.1, o_this.2.1, o_this.2.2.1, o_this.2.2.2.1, o_this.2.2.2.2.1, false, false, o_this.2.2.2.2.2.2.2.1, o_this.2.2.2.2.2.2.2.2.1, o_this.2.2.2.2.2.2.2.2.2.1, o_this.2.2.2.2.2.2.2.2.2.2.1, o_this.2.2.2.2.2.2.2.2.2.2.2.1, o_this.2.2.2.2.2.2.2.2.2.2.2.2) 12 0) cv_X0_end hx hb hml hown ht hN hK hA hP hD hS hl.1 (km_X0_75) ⟨Nat.le_of_ble_eq_true rfl, Nat.le_of_ble_eq_true rfl⟩ rfl rfl [0] (by decide) rfl [] rfl (fun _ => rfl) (ci := 0) rfl rfl rfl rfl rfl (Nat.le_of_ble_eq_true rfl) dX0_finishCommand_77 ⟨Nat.zero_le _, Nat.zero_le _⟩ (fun u H locs hw hP hD hS => ?_)
        obtain ⟨o_this_6, rfl⟩ : ∃ z, z = u := ⟨_, rfl⟩
        have hP : va_P D vwCl [(a_this, oX0 a_this_reader a_this_printer o_this_6), (a_this_reader, oX4 a_this_reader_making a_this_reader_queue a_this_reader_lengths a_this_reader_record o_this_reader)] H := hP
        have hD : va_D A [(a_this, oX0 a_this_reader a_this_printer o_this_6), (a_this_reader, oX4 a_this_reader_making a_this_reader_queue a_this_reader_lengths a_this_reader_record o_this_reader)] := hD
        rw [hw] at hF
        try dsimp only at hF
        exact hQ o_this_6 _ _ _ _ dX0_finishCommand_80 hF.symm hP hD hS
    · exact absurd c_3 (by decide)
  · have c_2 := (bI_ne0 _).mp c_2
    rw [if_pos c_2] at hF
    refine lv_aload_n hx hb dX0_finishCommand_17 rfl (lv_at hl 0 rfl) ?_
    refine gf_X0_72 (v := .int o_this.2.2.2.2.2.2.2.2.2.2.1) hx hb hown ht hK hP 0 rfl rfl dX0_finishCommand_18 ?_
    refine lv_if_ne (tgt := 34) hx hb dX0_finishCommand_21 (by decide) (fun c_7 => ?_) (fun c_7 => ?_)
    · skip
      rw [if_neg c_7] at hF
      refine lv_iconst (v := 1) hx hb dX0_finishCommand_34 (by decide) ?_
      refine lv_goto (tgt := 39) hx hb dX0_finishCommand_35 (by decide) ?_
      refine lv_istore_n (lv' := [(1, .int 1), (0, .ref a_this)]) hx hb dX0_finishCommand_39 rfl hl (by decide) rfl (fun ls hl => ?_)
      refine lv_iload_n hx hb dX0_finishCommand_40 rfl (lv_at hl 0 rfl) ?_
      refine lv_if_eq (tgt := 64) hx hb dX0_finishCommand_41 (by decide) (fun c_8 => ?_) (fun c_8 => ?_)
      · exact absurd c_8 (by decide)
      · skip
        refine lv_aload_n hx hb dX0_finishCommand_44 rfl (lv_at hl 1 rfl) ?_
        refine lv_bipush (v := 32) hx hb dX0_finishCommand_45 (by decide) ?_
        refine q_Vi (rest := []) (c_X0_flagged l D a_this a_this_reader a_this_printer (o_this.1, o_this.2.1, o_this.2.2.1, o_this.2.2.2.1, o_this.2.2.2.2.1, false, false, o_this.2.2.2.2.2.2.2.1, o_this.2.2.2.2.2.2.2.2.1, o_this.2.2.2.2.2.2.2.2.2.1, o_this.2.2.2.2.2.2.2.2.2.2.1, o_this.2.2.2.2.2.2.2.2.2.2.2.1, o_this.2.2.2.2.2.2.2.2.2.2.2.2) 32) cv_X0_flagged hx hb hml hown ht hN hK hA hP hD hS hl.1 (km_X0_114) ⟨Nat.le_of_ble_eq_true rfl, Nat.le_of_ble_eq_true rfl⟩ rfl rfl [0] (by decide) rfl [] rfl (fun _ => rfl) (ci := 0) rfl rfl rfl rfl rfl (Nat.le_of_ble_eq_true rfl) dX0_finishCommand_47 ⟨Nat.zero_le _, Nat.zero_le _⟩ (fun r u H locs hw hP hD hS => ?_)
        obtain ⟨rfl, rfl⟩ := hw
        have hP : va_P D vwCl [(a_this, oX0 a_this_reader a_this_printer (o_this.1, o_this.2.1, o_this.2.2.1, o_this.2.2.2.1, o_this.2.2.2.2.1, false, false, o_this.2.2.2.2.2.2.2.1, o_this.2.2.2.2.2.2.2.2.1, o_this.2.2.2.2.2.2.2.2.2.1, o_this.2.2.2.2.2.2.2.2.2.2.1, o_this.2.2.2.2.2.2.2.2.2.2.2.1, o_this.2.2.2.2.2.2.2.2.2.2.2.2)), (a_this_reader, oX4 a_this_reader_making a_this_reader_queue a_this_reader_lengths a_this_reader_record o_this_reader)] H := hP
        have hD : va_D A [(a_this, oX0 a_this_reader a_this_printer (o_this.1, o_this.2.1, o_this.2.2.1, o_this.2.2.2.1, o_this.2.2.2.2.1, false, false, o_this.2.2.2.2.2.2.2.1, o_this.2.2.2.2.2.2.2.2.1, o_this.2.2.2.2.2.2.2.2.2.1, o_this.2.2.2.2.2.2.2.2.2.2.1, o_this.2.2.2.2.2.2.2.2.2.2.2.1, o_this.2.2.2.2.2.2.2.2.2.2.2.2)), (a_this_reader, oX4 a_this_reader_making a_this_reader_queue a_this_reader_lengths a_this_reader_record o_this_reader)] := hD
        refine lv_if_ne (tgt := 64) hx hb dX0_finishCommand_50 (by decide) (fun c_10 => ?_) (fun c_10 => ?_)
        · have c_10 := (bI_ne0 _).mp c_10
          rw [if_pos c_10] at hF
          refine lv_aload_n hx hb dX0_finishCommand_64 rfl (lv_at hl 1 rfl) ?_
          refine lv_bipush (v := 64) hx hb dX0_finishCommand_65 (by decide) ?_
          refine q_Vi (rest := []) (c_X0_flagged l D a_this a_this_reader a_this_printer (o_this.1, o_this.2.1, o_this.2.2.1, o_this.2.2.2.1, o_this.2.2.2.2.1, false, false, o_this.2.2.2.2.2.2.2.1, o_this.2.2.2.2.2.2.2.2.1, o_this.2.2.2.2.2.2.2.2.2.1, o_this.2.2.2.2.2.2.2.2.2.2.1, o_this.2.2.2.2.2.2.2.2.2.2.2.1, o_this.2.2.2.2.2.2.2.2.2.2.2.2) 64) cv_X0_flagged hx hb hml hown ht hN hK hA hP hD hS hl.1 (km_X0_114) ⟨Nat.le_of_ble_eq_true rfl, Nat.le_of_ble_eq_true rfl⟩ rfl rfl [0] (by decide) rfl [] rfl (fun _ => rfl) (ci := 0) rfl rfl rfl rfl rfl (Nat.le_of_ble_eq_true rfl) dX0_finishCommand_67 ⟨Nat.zero_le _, Nat.zero_le _⟩ (fun r u H locs hw hP hD hS => ?_)
          obtain ⟨rfl, rfl⟩ := hw
          have hP : va_P D vwCl [(a_this, oX0 a_this_reader a_this_printer (o_this.1, o_this.2.1, o_this.2.2.1, o_this.2.2.2.1, o_this.2.2.2.2.1, false, false, o_this.2.2.2.2.2.2.2.1, o_this.2.2.2.2.2.2.2.2.1, o_this.2.2.2.2.2.2.2.2.2.1, o_this.2.2.2.2.2.2.2.2.2.2.1, o_this.2.2.2.2.2.2.2.2.2.2.2.1, o_this.2.2.2.2.2.2.2.2.2.2.2.2)), (a_this_reader, oX4 a_this_reader_making a_this_reader_queue a_this_reader_lengths a_this_reader_record o_this_reader)] H := hP
          have hD : va_D A [(a_this, oX0 a_this_reader a_this_printer (o_this.1, o_this.2.1, o_this.2.2.1, o_this.2.2.2.1, o_this.2.2.2.2.1, false, false, o_this.2.2.2.2.2.2.2.1, o_this.2.2.2.2.2.2.2.2.1, o_this.2.2.2.2.2.2.2.2.2.1, o_this.2.2.2.2.2.2.2.2.2.2.1, o_this.2.2.2.2.2.2.2.2.2.2.2.1, o_this.2.2.2.2.2.2.2.2.2.2.2.2)), (a_this_reader, oX4 a_this_reader_making a_this_reader_queue a_this_reader_lengths a_this_reader_record o_this_reader)] := hD
          refine lv_if_ne (tgt := 80) hx hb dX0_finishCommand_70 (by decide) (fun c_12 => ?_) (fun c_12 => ?_)
          · have c_12 := (bI_ne0 _).mp c_12
            rw [if_pos c_12] at hF
            exact hQ (o_this.1, o_this.2.1, o_this.2.2.1, o_this.2.2.2.1, o_this.2.2.2.2.1, false, false, o_this.2.2.2.2.2.2.2.1, o_this.2.2.2.2.2.2.2.2.1, o_this.2.2.2.2.2.2.2.2.2.1, o_this.2.2.2.2.2.2.2.2.2.2.1, o_this.2.2.2.2.2.2.2.2.2.2.2.1, o_this.2.2.2.2.2.2.2.2.2.2.2.2) _ _ _ _ dX0_finishCommand_80 hF.symm hP hD hS
          · have c_12 : ¬ (f_X0_flagged (o_this.1, o_this.2.1, o_this.2.2.1, o_this.2.2.2.1, o_this.2.2.2.2.1, false, false, o_this.2.2.2.2.2.2.2.1, o_this.2.2.2.2.2.2.2.2.1, o_this.2.2.2.2.2.2.2.2.2.1, o_this.2.2.2.2.2.2.2.2.2.2.1, o_this.2.2.2.2.2.2.2.2.2.2.2.1, o_this.2.2.2.2.2.2.2.2.2.2.2.2) 64) = true := by rw [(bI_eq0 _).mp c_12]; decide
            rw [if_neg c_12] at hF
            refine lv_aload_n hx hb dX0_finishCommand_73 rfl (lv_at hl 1 rfl) ?_
            refine lv_bipush (v := 12) hx hb dX0_finishCommand_74 (by decide) ?_
            refine lv_iconst (v := 0) hx hb dX0_finishCommand_76 (by decide) ?_
            refine q_Vv (rest := []) (c_X0_end l D a_this a_this_reader a_this_printer (o_this.1, o_this.2.1, o_this.2.2.1, o_this.2.2.2.1, o_this.2.2.2.2.1, false, false, o_this.2.2.2.2.2.2.2.1, o_this.2.2.2.2.2.2.2.2.1, o_this.2.2.2.2.2.2.2.2.2.1, o_this.2.2.2.2.2.2.2.2.2.2.1, o_this.2.2.2.2.2.2.2.2.2.2.2.1, o_this.2.2.2.2.2.2.2.2.2.2.2.2) 12 0) cv_X0_end hx hb hml hown ht hN hK hA hP hD hS hl.1 (km_X0_75) ⟨Nat.le_of_ble_eq_true rfl, Nat.le_of_ble_eq_true rfl⟩ rfl rfl [0] (by decide) rfl [] rfl (fun _ => rfl) (ci := 0) rfl rfl rfl rfl rfl (Nat.le_of_ble_eq_true rfl) dX0_finishCommand_77 ⟨Nat.zero_le _, Nat.zero_le _⟩ (fun u H locs hw hP hD hS => ?_)
            obtain ⟨o_this_13, rfl⟩ : ∃ z, z = u := ⟨_, rfl⟩
            have hP : va_P D vwCl [(a_this, oX0 a_this_reader a_this_printer o_this_13), (a_this_reader, oX4 a_this_reader_making a_this_reader_queue a_this_reader_lengths a_this_reader_record o_this_reader)] H := hP
            have hD : va_D A [(a_this, oX0 a_this_reader a_this_printer o_this_13), (a_this_reader, oX4 a_this_reader_making a_this_reader_queue a_this_reader_lengths a_this_reader_record o_this_reader)] := hD
            rw [hw] at hF
            try dsimp only at hF
            exact hQ o_this_13 _ _ _ _ dX0_finishCommand_80 hF.symm hP hD hS
        · have c_10 : ¬ (f_X0_flagged (o_this.1, o_this.2.1, o_this.2.2.1, o_this.2.2.2.1, o_this.2.2.2.2.1, false, false, o_this.2.2.2.2.2.2.2.1, o_this.2.2.2.2.2.2.2.2.1, o_this.2.2.2.2.2.2.2.2.2.1, o_this.2.2.2.2.2.2.2.2.2.2.1, o_this.2.2.2.2.2.2.2.2.2.2.2.1, o_this.2.2.2.2.2.2.2.2.2.2.2.2) 32) = true := by rw [(bI_eq0 _).mp c_10]; decide
          rw [if_neg c_10] at hF
          refine lv_aload_n hx hb dX0_finishCommand_53 rfl (lv_at hl 1 rfl) ?_
          refine lv_bipush (v := 12) hx hb dX0_finishCommand_54 (by decide) ?_
          refine lv_bipush (v := 64) hx hb dX0_finishCommand_56 (by decide) ?_
          refine q_Vv (rest := []) (c_X0_end l D a_this a_this_reader a_this_printer (o_this.1, o_this.2.1, o_this.2.2.1, o_this.2.2.2.1, o_this.2.2.2.2.1, false, false, o_this.2.2.2.2.2.2.2.1, o_this.2.2.2.2.2.2.2.2.1, o_this.2.2.2.2.2.2.2.2.2.1, o_this.2.2.2.2.2.2.2.2.2.2.1, o_this.2.2.2.2.2.2.2.2.2.2.2.1, o_this.2.2.2.2.2.2.2.2.2.2.2.2) 12 64) cv_X0_end hx hb hml hown ht hN hK hA hP hD hS hl.1 (km_X0_75) ⟨Nat.le_of_ble_eq_true rfl, Nat.le_of_ble_eq_true rfl⟩ rfl rfl [0] (by decide) rfl [] rfl (fun _ => rfl) (ci := 0) rfl rfl rfl rfl rfl (Nat.le_of_ble_eq_true rfl) dX0_finishCommand_58 ⟨Nat.zero_le _, Nat.zero_le _⟩ (fun u H locs hw hP hD hS => ?_)
          obtain ⟨o_this_14, rfl⟩ : ∃ z, z = u := ⟨_, rfl⟩
          have hP : va_P D vwCl [(a_this, oX0 a_this_reader a_this_printer o_this_14), (a_this_reader, oX4 a_this_reader_making a_this_reader_queue a_this_reader_lengths a_this_reader_record o_this_reader)] H := hP
          have hD : va_D A [(a_this, oX0 a_this_reader a_this_printer o_this_14), (a_this_reader, oX4 a_this_reader_making a_this_reader_queue a_this_reader_lengths a_this_reader_record o_this_reader)] := hD
          rw [hw] at hF
          try dsimp only at hF
          refine lv_goto (tgt := 80) hx hb dX0_finishCommand_61 (by decide) ?_
          exact hQ o_this_14 _ _ _ _ dX0_finishCommand_80 hF.symm hP hD hS
    · skip
      rw [if_pos c_7] at hF
      refine lv_aload_n hx hb dX0_finishCommand_24 rfl (lv_at hl 0 rfl) ?_
      refine gf_X0_12 (v := .ref a_this_reader) hx hb hown ht hK hP 0 rfl rfl dX0_finishCommand_25 ?_
      refine q_Vi (rest := []) (c_X4_isAtEnd l D a_this_reader a_this_reader_making a_this_reader_queue a_this_reader_lengths a_this_reader_record o_this_reader) cv_X4_isAtEnd hx hb hml hown ht hN hK hA hP hD hS hl.1 (km_X0_108) ⟨Nat.le_of_ble_eq_true rfl, Nat.le_of_ble_eq_true rfl⟩ rfl rfl [1] (by decide) rfl [] rfl (fun _ => rfl) (ci := 4) rfl rfl rfl rfl rfl (Nat.le_of_ble_eq_true rfl) dX0_finishCommand_28 ⟨Nat.zero_le _, Nat.zero_le _⟩ (fun r u H locs hw hP hD hS => ?_)
      obtain ⟨rfl, rfl⟩ := hw
      have hP : va_P D vwCl [(a_this, oX0 a_this_reader a_this_printer (o_this.1, o_this.2.1, o_this.2.2.1, o_this.2.2.2.1, o_this.2.2.2.2.1, false, false, o_this.2.2.2.2.2.2.2.1, o_this.2.2.2.2.2.2.2.2.1, o_this.2.2.2.2.2.2.2.2.2.1, o_this.2.2.2.2.2.2.2.2.2.2.1, o_this.2.2.2.2.2.2.2.2.2.2.2.1, o_this.2.2.2.2.2.2.2.2.2.2.2.2)), (a_this_reader, oX4 a_this_reader_making a_this_reader_queue a_this_reader_lengths a_this_reader_record o_this_reader)] H := hP
      have hD : va_D A [(a_this, oX0 a_this_reader a_this_printer (o_this.1, o_this.2.1, o_this.2.2.1, o_this.2.2.2.1, o_this.2.2.2.2.1, false, false, o_this.2.2.2.2.2.2.2.1, o_this.2.2.2.2.2.2.2.2.1, o_this.2.2.2.2.2.2.2.2.2.1, o_this.2.2.2.2.2.2.2.2.2.2.1, o_this.2.2.2.2.2.2.2.2.2.2.2.1, o_this.2.2.2.2.2.2.2.2.2.2.2.2)), (a_this_reader, oX4 a_this_reader_making a_this_reader_queue a_this_reader_lengths a_this_reader_record o_this_reader)] := hD
      refine lv_if_ne (tgt := 38) hx hb dX0_finishCommand_31 (by decide) (fun c_16 => ?_) (fun c_16 => ?_)
      · have c_16 := (bI_ne0 _).mp c_16
        rw [if_pos c_16] at hF
        refine lv_iconst (v := 0) hx hb dX0_finishCommand_38 (by decide) ?_
        refine lv_istore_n (lv' := [(1, .int 0), (0, .ref a_this)]) hx hb dX0_finishCommand_39 rfl hl (by decide) rfl (fun ls hl => ?_)
        refine lv_iload_n hx hb dX0_finishCommand_40 rfl (lv_at hl 0 rfl) ?_
        refine lv_if_eq (tgt := 64) hx hb dX0_finishCommand_41 (by decide) (fun c_17 => ?_) (fun c_17 => ?_)
        · skip
          refine lv_aload_n hx hb dX0_finishCommand_64 rfl (lv_at hl 1 rfl) ?_
          refine lv_bipush (v := 64) hx hb dX0_finishCommand_65 (by decide) ?_
          refine q_Vi (rest := []) (c_X0_flagged l D a_this a_this_reader a_this_printer (o_this.1, o_this.2.1, o_this.2.2.1, o_this.2.2.2.1, o_this.2.2.2.2.1, false, false, o_this.2.2.2.2.2.2.2.1, o_this.2.2.2.2.2.2.2.2.1, o_this.2.2.2.2.2.2.2.2.2.1, o_this.2.2.2.2.2.2.2.2.2.2.1, o_this.2.2.2.2.2.2.2.2.2.2.2.1, o_this.2.2.2.2.2.2.2.2.2.2.2.2) 64) cv_X0_flagged hx hb hml hown ht hN hK hA hP hD hS hl.1 (km_X0_114) ⟨Nat.le_of_ble_eq_true rfl, Nat.le_of_ble_eq_true rfl⟩ rfl rfl [0] (by decide) rfl [] rfl (fun _ => rfl) (ci := 0) rfl rfl rfl rfl rfl (Nat.le_of_ble_eq_true rfl) dX0_finishCommand_67 ⟨Nat.zero_le _, Nat.zero_le _⟩ (fun r u H locs hw hP hD hS => ?_)
          obtain ⟨rfl, rfl⟩ := hw
          have hP : va_P D vwCl [(a_this, oX0 a_this_reader a_this_printer (o_this.1, o_this.2.1, o_this.2.2.1, o_this.2.2.2.1, o_this.2.2.2.2.1, false, false, o_this.2.2.2.2.2.2.2.1, o_this.2.2.2.2.2.2.2.2.1, o_this.2.2.2.2.2.2.2.2.2.1, o_this.2.2.2.2.2.2.2.2.2.2.1, o_this.2.2.2.2.2.2.2.2.2.2.2.1, o_this.2.2.2.2.2.2.2.2.2.2.2.2)), (a_this_reader, oX4 a_this_reader_making a_this_reader_queue a_this_reader_lengths a_this_reader_record o_this_reader)] H := hP
          have hD : va_D A [(a_this, oX0 a_this_reader a_this_printer (o_this.1, o_this.2.1, o_this.2.2.1, o_this.2.2.2.1, o_this.2.2.2.2.1, false, false, o_this.2.2.2.2.2.2.2.1, o_this.2.2.2.2.2.2.2.2.1, o_this.2.2.2.2.2.2.2.2.2.1, o_this.2.2.2.2.2.2.2.2.2.2.1, o_this.2.2.2.2.2.2.2.2.2.2.2.1, o_this.2.2.2.2.2.2.2.2.2.2.2.2)), (a_this_reader, oX4 a_this_reader_making a_this_reader_queue a_this_reader_lengths a_this_reader_record o_this_reader)] := hD
          refine lv_if_ne (tgt := 80) hx hb dX0_finishCommand_70 (by decide) (fun c_19 => ?_) (fun c_19 => ?_)
          · have c_19 := (bI_ne0 _).mp c_19
            rw [if_pos c_19] at hF
            exact hQ (o_this.1, o_this.2.1, o_this.2.2.1, o_this.2.2.2.1, o_this.2.2.2.2.1, false, false, o_this.2.2.2.2.2.2.2.1, o_this.2.2.2.2.2.2.2.2.1, o_this.2.2.2.2.2.2.2.2.2.1, o_this.2.2.2.2.2.2.2.2.2.2.1, o_this.2.2.2.2.2.2.2.2.2.2.2.1, o_this.2.2.2.2.2.2.2.2.2.2.2.2) _ _ _ _ dX0_finishCommand_80 hF.symm hP hD hS
          · have c_19 : ¬ (f_X0_flagged (o_this.1, o_this.2.1, o_this.2.2.1, o_this.2.2.2.1, o_this.2.2.2.2.1, false, false, o_this.2.2.2.2.2.2.2.1, o_this.2.2.2.2.2.2.2.2.1, o_this.2.2.2.2.2.2.2.2.2.1, o_this.2.2.2.2.2.2.2.2.2.2.1, o_this.2.2.2.2.2.2.2.2.2.2.2.1, o_this.2.2.2.2.2.2.2.2.2.2.2.2) 64) = true := by rw [(bI_eq0 _).mp c_19]; decide
            rw [if_neg c_19] at hF
            refine lv_aload_n hx hb dX0_finishCommand_73 rfl (lv_at hl 1 rfl) ?_
            refine lv_bipush (v := 12) hx hb dX0_finishCommand_74 (by decide) ?_
            refine lv_iconst (v := 0) hx hb dX0_finishCommand_76 (by decide) ?_
            refine q_Vv (rest := []) (c_X0_end l D a_this a_this_reader a_this_printer (o_this.1, o_this.2.1, o_this.2.2.1, o_this.2.2.2.1, o_this.2.2.2.2.1, false, false, o_this.2.2.2.2.2.2.2.1, o_this.2.2.2.2.2.2.2.2.1, o_this.2.2.2.2.2.2.2.2.2.1, o_this.2.2.2.2.2.2.2.2.2.2.1, o_this.2.2.2.2.2.2.2.2.2.2.2.1, o_this.2.2.2.2.2.2.2.2.2.2.2.2) 12 0) cv_X0_end hx hb hml hown ht hN hK hA hP hD hS hl.1 (km_X0_75) ⟨Nat.le_of_ble_eq_true rfl, Nat.le_of_ble_eq_true rfl⟩ rfl rfl [0] (by decide) rfl [] rfl (fun _ => rfl) (ci := 0) rfl rfl rfl rfl rfl (Nat.le_of_ble_eq_true rfl) dX0_finishCommand_77 ⟨Nat.zero_le _, Nat.zero_le _⟩ (fun u H locs hw hP hD hS => ?_)
            obtain ⟨o_this_20, rfl⟩ : ∃ z, z = u := ⟨_, rfl⟩
            have hP : va_P D vwCl [(a_this, oX0 a_this_reader a_this_printer o_this_20), (a_this_reader, oX4 a_this_reader_making a_this_reader_queue a_this_reader_lengths a_this_reader_record o_this_reader)] H := hP
            have hD : va_D A [(a_this, oX0 a_this_reader a_this_printer o_this_20), (a_this_reader, oX4 a_this_reader_making a_this_reader_queue a_this_reader_lengths a_this_reader_record o_this_reader)] := hD
            rw [hw] at hF
            try dsimp only at hF
            exact hQ o_this_20 _ _ _ _ dX0_finishCommand_80 hF.symm hP hD hS
        · exact absurd c_17 (by decide)
      · have c_16 : ¬ (f_X4_isAtEnd o_this_reader) = true := by rw [(bI_eq0 _).mp c_16]; decide
        rw [if_neg c_16] at hF
        refine lv_iconst (v := 1) hx hb dX0_finishCommand_34 (by decide) ?_
        refine lv_goto (tgt := 39) hx hb dX0_finishCommand_35 (by decide) ?_
        refine lv_istore_n (lv' := [(1, .int 1), (0, .ref a_this)]) hx hb dX0_finishCommand_39 rfl hl (by decide) rfl (fun ls hl => ?_)
        refine lv_iload_n hx hb dX0_finishCommand_40 rfl (lv_at hl 0 rfl) ?_
        refine lv_if_eq (tgt := 64) hx hb dX0_finishCommand_41 (by decide) (fun c_21 => ?_) (fun c_21 => ?_)
        · exact absurd c_21 (by decide)
        · skip
          refine lv_aload_n hx hb dX0_finishCommand_44 rfl (lv_at hl 1 rfl) ?_
          refine lv_bipush (v := 32) hx hb dX0_finishCommand_45 (by decide) ?_
          refine q_Vi (rest := []) (c_X0_flagged l D a_this a_this_reader a_this_printer (o_this.1, o_this.2.1, o_this.2.2.1, o_this.2.2.2.1, o_this.2.2.2.2.1, false, false, o_this.2.2.2.2.2.2.2.1, o_this.2.2.2.2.2.2.2.2.1, o_this.2.2.2.2.2.2.2.2.2.1, o_this.2.2.2.2.2.2.2.2.2.2.1, o_this.2.2.2.2.2.2.2.2.2.2.2.1, o_this.2.2.2.2.2.2.2.2.2.2.2.2) 32) cv_X0_flagged hx hb hml hown ht hN hK hA hP hD hS hl.1 (km_X0_114) ⟨Nat.le_of_ble_eq_true rfl, Nat.le_of_ble_eq_true rfl⟩ rfl rfl [0] (by decide) rfl [] rfl (fun _ => rfl) (ci := 0) rfl rfl rfl rfl rfl (Nat.le_of_ble_eq_true rfl) dX0_finishCommand_47 ⟨Nat.zero_le _, Nat.zero_le _⟩ (fun r u H locs hw hP hD hS => ?_)
          obtain ⟨rfl, rfl⟩ := hw
          have hP : va_P D vwCl [(a_this, oX0 a_this_reader a_this_printer (o_this.1, o_this.2.1, o_this.2.2.1, o_this.2.2.2.1, o_this.2.2.2.2.1, false, false, o_this.2.2.2.2.2.2.2.1, o_this.2.2.2.2.2.2.2.2.1, o_this.2.2.2.2.2.2.2.2.2.1, o_this.2.2.2.2.2.2.2.2.2.2.1, o_this.2.2.2.2.2.2.2.2.2.2.2.1, o_this.2.2.2.2.2.2.2.2.2.2.2.2)), (a_this_reader, oX4 a_this_reader_making a_this_reader_queue a_this_reader_lengths a_this_reader_record o_this_reader)] H := hP
          have hD : va_D A [(a_this, oX0 a_this_reader a_this_printer (o_this.1, o_this.2.1, o_this.2.2.1, o_this.2.2.2.1, o_this.2.2.2.2.1, false, false, o_this.2.2.2.2.2.2.2.1, o_this.2.2.2.2.2.2.2.2.1, o_this.2.2.2.2.2.2.2.2.2.1, o_this.2.2.2.2.2.2.2.2.2.2.1, o_this.2.2.2.2.2.2.2.2.2.2.2.1, o_this.2.2.2.2.2.2.2.2.2.2.2.2)), (a_this_reader, oX4 a_this_reader_making a_this_reader_queue a_this_reader_lengths a_this_reader_record o_this_reader)] := hD
          refine lv_if_ne (tgt := 64) hx hb dX0_finishCommand_50 (by decide) (fun c_23 => ?_) (fun c_23 => ?_)
          · have c_23 := (bI_ne0 _).mp c_23
            rw [if_pos c_23] at hF
            refine lv_aload_n hx hb dX0_finishCommand_64 rfl (lv_at hl 1 rfl) ?_
            refine lv_bipush (v := 64) hx hb dX0_finishCommand_65 (by decide) ?_
            refine q_Vi (rest := []) (c_X0_flagged l D a_this a_this_reader a_this_printer (o_this.1, o_this.2.1, o_this.2.2.1, o_this.2.2.2.1, o_this.2.2.2.2.1, false, false, o_this.2.2.2.2.2.2.2.1, o_this.2.2.2.2.2.2.2.2.1, o_this.2.2.2.2.2.2.2.2.2.1, o_this.2.2.2.2.2.2.2.2.2.2.1, o_this.2.2.2.2.2.2.2.2.2.2.2.1, o_this.2.2.2.2.2.2.2.2.2.2.2.2) 64) cv_X0_flagged hx hb hml hown ht hN hK hA hP hD hS hl.1 (km_X0_114) ⟨Nat.le_of_ble_eq_true rfl, Nat.le_of_ble_eq_true rfl⟩ rfl rfl [0] (by decide) rfl [] rfl (fun _ => rfl) (ci := 0) rfl rfl rfl rfl rfl (Nat.le_of_ble_eq_true rfl) dX0_finishCommand_67 ⟨Nat.zero_le _, Nat.zero_le _⟩ (fun r u H locs hw hP hD hS => ?_)
            obtain ⟨rfl, rfl⟩ := hw
            have hP : va_P D vwCl [(a_this, oX0 a_this_reader a_this_printer (o_this.1, o_this.2.1, o_this.2.2.1, o_this.2.2.2.1, o_this.2.2.2.2.1, false, false, o_this.2.2.2.2.2.2.2.1, o_this.2.2.2.2.2.2.2.2.1, o_this.2.2.2.2.2.2.2.2.2.1, o_this.2.2.2.2.2.2.2.2.2.2.1, o_this.2.2.2.2.2.2.2.2.2.2.2.1, o_this.2.2.2.2.2.2.2.2.2.2.2.2)), (a_this_reader, oX4 a_this_reader_making a_this_reader_queue a_this_reader_lengths a_this_reader_record o_this_reader)] H := hP
            have hD : va_D A [(a_this, oX0 a_this_reader a_this_printer (o_this.1, o_this.2.1, o_this.2.2.1, o_this.2.2.2.1, o_this.2.2.2.2.1, false, false, o_this.2.2.2.2.2.2.2.1, o_this.2.2.2.2.2.2.2.2.1, o_this.2.2.2.2.2.2.2.2.2.1, o_this.2.2.2.2.2.2.2.2.2.2.1, o_this.2.2.2.2.2.2.2.2.2.2.2.1, o_this.2.2.2.2.2.2.2.2.2.2.2.2)), (a_this_reader, oX4 a_this_reader_making a_this_reader_queue a_this_reader_lengths a_this_reader_record o_this_reader)] := hD
            refine lv_if_ne (tgt := 80) hx hb dX0_finishCommand_70 (by decide) (fun c_25 => ?_) (fun c_25 => ?_)
            · have c_25 := (bI_ne0 _).mp c_25
              rw [if_pos c_25] at hF
              exact hQ (o_this.1, o_this.2.1, o_this.2.2.1, o_this.2.2.2.1, o_this.2.2.2.2.1, false, false, o_this.2.2.2.2.2.2.2.1, o_this.2.2.2.2.2.2.2.2.1, o_this.2.2.2.2.2.2.2.2.2.1, o_this.2.2.2.2.2.2.2.2.2.2.1, o_this.2.2.2.2.2.2.2.2.2.2.2.1, o_this.2.2.2.2.2.2.2.2.2.2.2.2) _ _ _ _ dX0_finishCommand_80 hF.symm hP hD hS
            · have c_25 : ¬ (f_X0_flagged (o_this.1, o_this.2.1, o_this.2.2.1, o_this.2.2.2.1, o_this.2.2.2.2.1, false, false, o_this.2.2.2.2.2.2.2.1, o_this.2.2.2.2.2.2.2.2.1, o_this.2.2.2.2.2.2.2.2.2.1, o_this.2.2.2.2.2.2.2.2.2.2.1, o_this.2.2.2.2.2.2.2.2.2.2.2.1, o_this.2.2.2.2.2.2.2.2.2.2.2.2) 64) = true := by rw [(bI_eq0 _).mp c_25]; decide
              rw [if_neg c_25] at hF
              refine lv_aload_n hx hb dX0_finishCommand_73 rfl (lv_at hl 1 rfl) ?_
              refine lv_bipush (v := 12) hx hb dX0_finishCommand_74 (by decide) ?_
              refine lv_iconst (v := 0) hx hb dX0_finishCommand_76 (by decide) ?_
              refine q_Vv (rest := []) (c_X0_end l D a_this a_this_reader a_this_printer (o_this.1, o_this.2.1, o_this.2.2.1, o_this.2.2.2.1, o_this.2.2.2.2.1, false, false, o_this.2.2.2.2.2.2.2.1, o_this.2.2.2.2.2.2.2.2.1, o_this.2.2.2.2.2.2.2.2.2.1, o_this.2.2.2.2.2.2.2.2.2.2.1, o_this.2.2.2.2.2.2.2.2.2.2.2.1, o_this.2.2.2.2.2.2.2.2.2.2.2.2) 12 0) cv_X0_end hx hb hml hown ht hN hK hA hP hD hS hl.1 (km_X0_75) ⟨Nat.le_of_ble_eq_true rfl, Nat.le_of_ble_eq_true rfl⟩ rfl rfl [0] (by decide) rfl [] rfl (fun _ => rfl) (ci := 0) rfl rfl rfl rfl rfl (Nat.le_of_ble_eq_true rfl) dX0_finishCommand_77 ⟨Nat.zero_le _, Nat.zero_le _⟩ (fun u H locs hw hP hD hS => ?_)
              obtain ⟨o_this_26, rfl⟩ : ∃ z, z = u := ⟨_, rfl⟩
              have hP : va_P D vwCl [(a_this, oX0 a_this_reader a_this_printer o_this_26), (a_this_reader, oX4 a_this_reader_making a_this_reader_queue a_this_reader_lengths a_this_reader_record o_this_reader)] H := hP
              have hD : va_D A [(a_this, oX0 a_this_reader a_this_printer o_this_26), (a_this_reader, oX4 a_this_reader_making a_this_reader_queue a_this_reader_lengths a_this_reader_record o_this_reader)] := hD
              rw [hw] at hF
              try dsimp only at hF
              exact hQ o_this_26 _ _ _ _ dX0_finishCommand_80 hF.symm hP hD hS
          · have c_23 : ¬ (f_X0_flagged (o_this.1, o_this.2.1, o_this.2.2.1, o_this.2.2.2.1, o_this.2.2.2.2.1, false, false, o_this.2.2.2.2.2.2.2.1, o_this.2.2.2.2.2.2.2.2.1, o_this.2.2.2.2.2.2.2.2.2.1, o_this.2.2.2.2.2.2.2.2.2.2.1, o_this.2.2.2.2.2.2.2.2.2.2.2.1, o_this.2.2.2.2.2.2.2.2.2.2.2.2) 32) = true := by rw [(bI_eq0 _).mp c_23]; decide
            rw [if_neg c_23] at hF
            refine lv_aload_n hx hb dX0_finishCommand_53 rfl (lv_at hl 1 rfl) ?_
            refine lv_bipush (v := 12) hx hb dX0_finishCommand_54 (by decide) ?_
            refine lv_bipush (v := 64) hx hb dX0_finishCommand_56 (by decide) ?_
            refine q_Vv (rest := []) (c_X0_end l D a_this a_this_reader a_this_printer (o_this.1, o_this.2.1, o_this.2.2.1, o_this.2.2.2.1, o_this.2.2.2.2.1, false, false, o_this.2.2.2.2.2.2.2.1, o_this.2.2.2.2.2.2.2.2.1, o_this.2.2.2.2.2.2.2.2.2.1, o_this.2.2.2.2.2.2.2.2.2.2.1, o_this.2.2.2.2.2.2.2.2.2.2.2.1, o_this.2.2.2.2.2.2.2.2.2.2.2.2) 12 64) cv_X0_end hx hb hml hown ht hN hK hA hP hD hS hl.1 (km_X0_75) ⟨Nat.le_of_ble_eq_true rfl, Nat.le_of_ble_eq_true rfl⟩ rfl rfl [0] (by decide) rfl [] rfl (fun _ => rfl) (ci := 0) rfl rfl rfl rfl rfl (Nat.le_of_ble_eq_true rfl) dX0_finishCommand_58 ⟨Nat.zero_le _, Nat.zero_le _⟩ (fun u H locs hw hP hD hS => ?_)
            obtain ⟨o_this_27, rfl⟩ : ∃ z, z = u := ⟨_, rfl⟩
            have hP : va_P D vwCl [(a_this, oX0 a_this_reader a_this_printer o_this_27), (a_this_reader, oX4 a_this_reader_making a_this_reader_queue a_this_reader_lengths a_this_reader_record o_this_reader)] H := hP
            have hD : va_D A [(a_this, oX0 a_this_reader a_this_printer o_this_27), (a_this_reader, oX4 a_this_reader_making a_this_reader_queue a_this_reader_lengths a_this_reader_record o_this_reader)] := hD
            rw [hw] at hF
            try dsimp only at hF
            refine lv_goto (tgt := 80) hx hb dX0_finishCommand_61 (by decide) ?_
            exact hQ o_this_27 _ _ _ _ dX0_finishCommand_80 hF.symm hP hD hS
theorem cv_X0_finishCommand : qV yX0_finishCommand cX0_finishCommand 2 none 0 := ⟨kc_X0_finishCommand, kt_X0_finishCommand, ks_X0_finishCommand, kn_X0, by decide, by decide +kernel⟩
def f_X0_goOn (o_this : Bool × Bool × Int32 × Int32 × Int32 × Bool × Bool × Bool × Int32 × Int32 × Int32 × Int32 × Int32) (o_this_reader : Int32 × Int32 × Int32 × Int32 × Int32) : Bool × Bool × Int32 × Int32 × Int32 × Bool × Bool × Bool × Int32 × Int32 × Int32 × Int32 × Int32 := (if (f_X0_isReading o_this) = true then (if (f_X4_isAtEnd o_this_reader) = true then (match f_X0_finishCommand o_this o_this_reader with | o_this_19 => o_this_19) else (if o_this.2.2.2.2.2.2.2.2.2.2.1 = 0 then (if (f_X0_flagged o_this 128) = true then (o_this.1, o_this.2.1, o_this.2.2.1, o_this.2.2.2.1, o_this.2.2.2.2.1, false, true, o_this.2.2.2.2.2.2.2.1, o_this.2.2.2.2.2.2.2.2.1, o_this.2.2.2.2.2.2.2.2.2.1, o_this.2.2.2.2.2.2.2.2.2.2.1, o_this.2.2.2.2.2.2.2.2.2.2.2.1, o_this.2.2.2.2.2.2.2.2.2.2.2.2) else (if o_this.2.2.2.2.2.2.2.2.2.2.1 = 0 then (match f_X0_finishCommand o_this o_this_reader with | o_this_18 => o_this_18) else o_this)) else (if o_this.2.2.2.2.2.2.2.2.2.2.1 = 0 then (match f_X0_finishCommand o_this o_this_reader with | o_this_14 => o_this_14) else o_this))) else (if o_this.2.2.2.2.2.2.2.2.2.2.1 = 0 then (if (f_X0_flagged o_this 128) = true then (o_this.1, o_this.2.1, o_this.2.2.1, o_this.2.2.2.1, o_this.2.2.2.2.1, false, true, o_this.2.2.2.2.2.2.2.1, o_this.2.2.2.2.2.2.2.2.1, o_this.2.2.2.2.2.2.2.2.2.1, o_this.2.2.2.2.2.2.2.2.2.2.1, o_this.2.2.2.2.2.2.2.2.2.2.2.1, o_this.2.2.2.2.2.2.2.2.2.2.2.2) else (if o_this.2.2.2.2.2.2.2.2.2.2.1 = 0 then (match f_X0_finishCommand o_this o_this_reader with | o_this_9 => o_this_9) else o_this)) else (if o_this.2.2.2.2.2.2.2.2.2.2.1 = 0 then (match f_X0_finishCommand o_this o_this_reader with | o_this_5 => o_this_5) else o_this)))
set_option maxHeartbeats 4000000 in
set_option maxRecDepth 100000 in
theorem c_X0_goOn (l : Launch) (D : va_G) (a_this a_this_reader a_this_printer a_this_reader_making a_this_reader_queue a_this_reader_lengths a_this_reader_record : Nat) (o_this : Bool × Bool × Int32 × Int32 × Int32 × Bool × Bool × Bool × Int32 × Int32 × Int32 × Int32 × Int32) (o_this_reader : Int32 × Int32 × Int32 × Int32 × Int32) : CtV l yX0_goOn cX0_goOn 1 none { frames := 2, cells := 0, slots := 0, locals := 43 } D [.ref a_this] [(a_this, oX0 a_this_reader a_this_printer o_this), (a_this_reader, oX4 a_this_reader_making a_this_reader_queue a_this_reader_lengths a_this_reader_record o_this_reader)] [] (fun (u : Bool × Bool × Int32 × Int32 × Int32 × Bool × Bool × Bool × Int32 × Int32 × Int32 × Int32 × Int32) => f_X0_goOn o_this o_this_reader = u) (fun u => [(a_this, oX0 a_this_reader a_this_printer u), (a_this_reader, oX4 a_this_reader_making a_this_reader_queue a_this_reader_lengths a_this_reader_record o_this_reader)]) := by
  refine CtV.of (by decide) (Nat.le_of_ble_eq_true rfl) ?_
  intro p e s m below meth c A ls Q hE hP hD hS hl hQ
  obtain ⟨hx, hb, hml, hown, ht, hN, hK, hA⟩ := hE
  have hown : s.vm.findClass RX0 = some m.cls := hown
  have hl : lv_has ls 1 [(0, .ref a_this)] := hl
  obtain ⟨F, hF⟩ : ∃ F, f_X0_goOn o_this o_this_reader = F := ⟨_, rfl⟩
  rw [hF] at hQ
  unfold f_X0_goOn at hF
  refine lv_aload_n hx hb dX0_goOn_0 rfl (lv_at hl 0 rfl) ?_
  refine q_Vi (rest := []) (c_X0_isReading l D a_this a_this_reader a_this_printer o_this) cv_X0_isReading hx hb hml hown ht hN hK hA hP hD hS hl.1 (km_X0_98) ⟨Nat.le_of_ble_eq_true rfl, Nat.le_of_ble_eq_true rfl⟩ rfl rfl [0] (by decide) rfl [] rfl (fun _ => rfl) (ci := 0) rfl rfl rfl rfl rfl (Nat.le_of_ble_eq_true rfl) dX0_goOn_1 ⟨Nat.zero_le _, Nat.zero_le _⟩ (fun r u H locs hw hP hD hS => ?_)
  obtain ⟨rfl, rfl⟩ := hw
  have hP : va_P D vwCl [(a_this, oX0 a_this_reader a_this_printer o_this), (a_this_reader, oX4 a_this_reader_making a_this_reader_queue a_this_reader_lengths a_this_reader_record o_this_reader)] H := hP
  have hD : va_D A [(a_this, oX0 a_this_reader a_this_printer o_this), (a_this_reader, oX4 a_this_reader_making a_this_reader_queue a_this_reader_lengths a_this_reader_record o_this_reader)] := hD
  refine lv_if_eq (tgt := 24) hx hb dX0_goOn_4 (by decide) (fun c_2 => ?_) (fun c_2 => ?_)
  · have c_2 : ¬ (f_X0_isReading o_this) = true := by rw [(bI_eq0 _).mp c_2]; decide
    rw [if_neg c_2] at hF
    refine lv_aload_n hx hb dX0_goOn_24 rfl (lv_at hl 0 rfl) ?_
    refine gf_X0_72 (v := .int o_this.2.2.2.2.2.2.2.2.2.2.1) hx hb hown ht hK hP 0 rfl rfl dX0_goOn_25 ?_
    refine lv_if_ne (tgt := 54) hx hb dX0_goOn_28 (by decide) (fun c_3 => ?_) (fun c_3 => ?_)
    · skip
      rw [if_neg c_3] at hF
      refine lv_aload_n hx hb dX0_goOn_54 rfl (lv_at hl 0 rfl) ?_
      refine gf_X0_72 (v := .int o_this.2.2.2.2.2.2.2.2.2.2.1) hx hb hown ht hK hP 0 rfl rfl dX0_goOn_55 ?_
      refine lv_if_ne (tgt := 65) hx hb dX0_goOn_58 (by decide) (fun c_4 => ?_) (fun c_4 => ?_)
      · skip
        rw [if_neg c_4] at hF
        exact hQ o_this _ _ _ _ dX0_goOn_65 hF.symm hP hD hS
      · skip
        rw [if_pos c_4] at hF
        refine lv_aload_n hx hb dX0_goOn_61 rfl (lv_at hl 0 rfl) ?_
        refine q_Vv (rest := []) (c_X0_finishCommand l D a_this a_this_reader a_this_printer a_this_reader_making a_this_reader_queue a_this_reader_lengths a_this_reader_record o_this o_this_reader) cv_X0_finishCommand hx hb hml hown ht hN hK hA hP hD hS hl.1 (km_X0_111) ⟨Nat.le_of_ble_eq_true rfl, Nat.le_of_ble_eq_true rfl⟩ rfl rfl [0, 1] (by decide) rfl [] rfl (fun _ => rfl) (ci := 0) rfl rfl rfl rfl rfl (Nat.le_of_ble_eq_true rfl) dX0_goOn_62 ⟨Nat.zero_le _, Nat.zero_le _⟩ (fun u H locs hw hP hD hS => ?_)
        obtain ⟨o_this_5, rfl⟩ : ∃ z, z = u := ⟨_, rfl⟩
        have hP : va_P D vwCl [(a_this, oX0 a_this_reader a_this_printer o_this_5), (a_this_reader, oX4 a_this_reader_making a_this_reader_queue a_this_reader_lengths a_this_reader_record o_this_reader)] H := hP
        have hD : va_D A [(a_this, oX0 a_this_reader a_this_printer o_this_5), (a_this_reader, oX4 a_this_reader_making a_this_reader_queue a_this_reader_lengths a_this_reader_record o_this_reader)] := hD
        rw [hw] at hF
        try dsimp only at hF
        exact hQ o_this_5 _ _ _ _ dX0_goOn_65 hF.symm hP hD hS
    · skip
      rw [if_pos c_3] at hF
      refine lv_aload_n hx hb dX0_goOn_31 rfl (lv_at hl 0 rfl) ?_
      refine lv_sipush (v := 128) hx hb dX0_goOn_32 (by decide) ?_
      refine q_Vi (rest := []) (c_X0_flagged l D a_this a_this_reader a_this_printer o_this 128) cv_X0_flagged hx hb hml hown ht hN hK hA hP hD hS hl.1 (km_X0_114) ⟨Nat.le_of_ble_eq_true rfl, Nat.le_of_ble_eq_true rfl⟩ rfl rfl [0] (by decide) rfl [] rfl (fun _ => rfl) (ci := 0) rfl rfl rfl rfl rfl (Nat.le_of_ble_eq_true rfl) dX0_goOn_35 ⟨Nat.zero_le _, Nat.zero_le _⟩ (fun r u H locs hw hP hD hS => ?_)
      obtain ⟨rfl, rfl⟩ := hw
      have hP : va_P D vwCl [(a_this, oX0 a_this_reader a_this_printer o_this), (a_this_reader, oX4 a_this_reader_making a_this_reader_queue a_this_reader_lengths a_this_reader_record o_this_reader)] H := hP
      have hD : va_D A [(a_this, oX0 a_this_reader a_this_printer o_this), (a_this_reader, oX4 a_this_reader_making a_this_reader_queue a_this_reader_lengths a_this_reader_record o_this_reader)] := hD
      refine lv_if_eq (tgt := 54) hx hb dX0_goOn_38 (by decide) (fun c_7 => ?_) (fun c_7 => ?_)
      · have c_7 : ¬ (f_X0_flagged o_this 128) = true := by rw [(bI_eq0 _).mp c_7]; decide
        rw [if_neg c_7] at hF
        refine lv_aload_n hx hb dX0_goOn_54 rfl (lv_at hl 0 rfl) ?_
        refine gf_X0_72 (v := .int o_this.2.2.2.2.2.2.2.2.2.2.1) hx hb hown ht hK hP 0 rfl rfl dX0_goOn_55 ?_
        refine lv_if_ne (tgt := 65) hx hb dX0_goOn_58 (by decide) (fun c_8 => ?_) (fun c_8 => ?_)
        · skip
          rw [if_neg c_8] at hF
          exact hQ o_this _ _ _ _ dX0_goOn_65 hF.symm hP hD hS
        · skip
          rw [if_pos c_8] at hF
          refine lv_aload_n hx hb dX0_goOn_61 rfl (lv_at hl 0 rfl) ?_
          refine q_Vv (rest := []) (c_X0_finishCommand l D a_this a_this_reader a_this_printer a_this_reader_making a_this_reader_queue a_this_reader_lengths a_this_reader_record o_this o_this_reader) cv_X0_finishCommand hx hb hml hown ht hN hK hA hP hD hS hl.1 (km_X0_111) ⟨Nat.le_of_ble_eq_true rfl, Nat.le_of_ble_eq_true rfl⟩ rfl rfl [0, 1] (by decide) rfl [] rfl (fun _ => rfl) (ci := 0) rfl rfl rfl rfl rfl (Nat.le_of_ble_eq_true rfl) dX0_goOn_62 ⟨Nat.zero_le _, Nat.zero_le _⟩ (fun u H locs hw hP hD hS => ?_)
          obtain ⟨o_this_9, rfl⟩ : ∃ z, z = u := ⟨_, rfl⟩
          have hP : va_P D vwCl [(a_this, oX0 a_this_reader a_this_printer o_this_9), (a_this_reader, oX4 a_this_reader_making a_this_reader_queue a_this_reader_lengths a_this_reader_record o_this_reader)] H := hP
          have hD : va_D A [(a_this, oX0 a_this_reader a_this_printer o_this_9), (a_this_reader, oX4 a_this_reader_making a_this_reader_queue a_this_reader_lengths a_this_reader_record o_this_reader)] := hD
          rw [hw] at hF
          try dsimp only at hF
          exact hQ o_this_9 _ _ _ _ dX0_goOn_65 hF.symm hP hD hS
      · have c_7 := (bI_ne0 _).mp c_7
        rw [if_pos c_7] at hF
        refine lv_aload_n hx hb dX0_goOn_41 rfl (lv_at hl 0 rfl) ?_
        refine lv_iconst (v := 0) hx hb dX0_goOn_42 (by decide) ?_
        refine pf_X0_49 (x := false) hx hb hown ht hK hP hD hS 0 rfl (Nat.le_of_ble_eq_true rfl) dX0_goOn_43 (fun H locs hP hD hS => ?_)
        have hP : va_P D vwCl [(a_this, oX0 a_this_reader a_this_printer (o_this.1, o_this.2.1, o_this.2.2.1, o_this.2.2.2.1, o_this.2.2.2.2.1, false, o_this.2.2.2.2.2.2.1, o_this.2.2.2.2.2.2.2.1, o_this.2.2.2.2.2.2.2.2.1, o_this.2.2.2.2.2.2.2.2.2.1, o_this.2.2.2.2.2.2.2.2.2.2.1, o_this.2.2.2.2.2.2.2.2.2.2.2.1, o_this.2.2.2.2.2.2.2.2.2.2.2.2)), (a_this_reader, oX4 a_this_reader_making a_this_reader_queue a_this_reader_lengths a_this_reader_record o_this_reader)] H := hP
        have hD : va_D A [(a_this, oX0 a_this_reader a_this_printer (o_this.1, o_this.2.1, o_this.2.2.1, o_this.2.2.2.1, o_this.2.2.2.2.1, false, o_this.2.2.2.2.2.2.1, o_this.2.2.2.2.2.2.2.1, o_this.2.2.2.2.2.2.2.2.1, o_this.2.2.2.2.2.2.2.2.2.1, o_this.2.2.2.2.2.2.2.2.2.2.1, o_this.2.2.2.2.2.2.2.2.2.2.2.1, o_this.2.2.2.2.2.2.2.2.2.2.2.2)), (a_this_reader, oX4 a_this_reader_making a_this_reader_queue a_this_reader_lengths a_this_reader_record o_this_reader)] := hD
        refine lv_aload_n hx hb dX0_goOn_46 rfl (lv_at hl 0 rfl) ?_
        refine lv_iconst (v := 1) hx hb dX0_goOn_47 (by decide) ?_
        refine pf_X0_52 (x := true) hx hb hown ht hK hP hD hS 0 rfl (Nat.le_of_ble_eq_true rfl) dX0_goOn_48 (fun H locs hP hD hS => ?_)
        have hP : va_P D vwCl [(a_this, oX0 a_this_reader a_this_printer (o_this.1, o_this.2.1, o_this.2.2.1, o_this.2.2.2.1, o_this.2.2.2.2.1, false, true, o_this.2.2.2.2.2.2.2.1, o_this.2.2.2.2.2.2.2.2.1, o_this.2.2.2.2.2.2.2.2.2.1, o_this.2.2.2.2.2.2.2.2.2.2.1, o_this.2.2.2.2.2.2.2.2.2.2.2.1, o_this.2.2.2.2.2.2.2.2.2.2.2.2)), (a_this_reader, oX4 a_this_reader_making a_this_reader_queue a_this_reader_lengths a_this_reader_record o_this_reader)] H := hP
        have hD : va_D A [(a_this, oX0 a_this_reader a_this_printer (o_this.1, o_this.2.1, o_this.2.2.1, o_this.2.2.2.1, o_this.2.2.2.2.1, false, true, o_this.2.2.2.2.2.2.2.1, o_this.2.2.2.2.2.2.2.2.1, o_this.2.2.2.2.2.2.2.2.2.1, o_this.2.2.2.2.2.2.2.2.2.2.1, o_this.2.2.2.2.2.2.2.2.2.2.2.1, o_this.2.2.2.2.2.2.2.2.2.2.2.2)), (a_this_reader, oX4 a_this_reader_making a_this_reader_queue a_this_reader_lengths a_this_reader_record o_this_reader)] := hD
        refine lv_goto (tgt := 65) hx hb dX0_goOn_51 (by decide) ?_
        exact hQ (o_this.1, o_this.2.1, o_this.2.2.1, o_this.2.2.2.1, o_this.2.2.2.2.1, false, true, o_this.2.2.2.2.2.2.2.1, o_this.2.2.2.2.2.2.2.2.1, o_this.2.2.2.2.2.2.2.2.2.1, o_this.2.2.2.2.2.2.2.2.2.2.1, o_this.2.2.2.2.2.2.2.2.2.2.2.1, o_this.2.2.2.2.2.2.2.2.2.2.2.2) _ _ _ _ dX0_goOn_65 hF.symm hP hD hS
  · have c_2 := (bI_ne0 _).mp c_2
    rw [if_pos c_2] at hF
    refine lv_aload_n hx hb dX0_goOn_7 rfl (lv_at hl 0 rfl) ?_
    refine gf_X0_12 (v := .ref a_this_reader) hx hb hown ht hK hP 0 rfl rfl dX0_goOn_8 ?_
    refine q_Vi (rest := []) (c_X4_isAtEnd l D a_this_reader a_this_reader_making a_this_reader_queue a_this_reader_lengths a_this_reader_record o_this_reader) cv_X4_isAtEnd hx hb hml hown ht hN hK hA hP hD hS hl.1 (km_X0_108) ⟨Nat.le_of_ble_eq_true rfl, Nat.le_of_ble_eq_true rfl⟩ rfl rfl [1] (by decide) rfl [] rfl (fun _ => rfl) (ci := 4) rfl rfl rfl rfl rfl (Nat.le_of_ble_eq_true rfl) dX0_goOn_11 ⟨Nat.zero_le _, Nat.zero_le _⟩ (fun r u H locs hw hP hD hS => ?_)
    obtain ⟨rfl, rfl⟩ := hw
    have hP : va_P D vwCl [(a_this, oX0 a_this_reader a_this_printer o_this), (a_this_reader, oX4 a_this_reader_making a_this_reader_queue a_this_reader_lengths a_this_reader_record o_this_reader)] H := hP
    have hD : va_D A [(a_this, oX0 a_this_reader a_this_printer o_this), (a_this_reader, oX4 a_this_reader_making a_this_reader_queue a_this_reader_lengths a_this_reader_record o_this_reader)] := hD
    refine lv_if_eq (tgt := 24) hx hb dX0_goOn_14 (by decide) (fun c_11 => ?_) (fun c_11 => ?_)
    · have c_11 : ¬ (f_X4_isAtEnd o_this_reader) = true := by rw [(bI_eq0 _).mp c_11]; decide
      rw [if_neg c_11] at hF
      refine lv_aload_n hx hb dX0_goOn_24 rfl (lv_at hl 0 rfl) ?_
      refine gf_X0_72 (v := .int o_this.2.2.2.2.2.2.2.2.2.2.1) hx hb hown ht hK hP 0 rfl rfl dX0_goOn_25 ?_
      refine lv_if_ne (tgt := 54) hx hb dX0_goOn_28 (by decide) (fun c_12 => ?_) (fun c_12 => ?_)
      · skip
        rw [if_neg c_12] at hF
        refine lv_aload_n hx hb dX0_goOn_54 rfl (lv_at hl 0 rfl) ?_
        refine gf_X0_72 (v := .int o_this.2.2.2.2.2.2.2.2.2.2.1) hx hb hown ht hK hP 0 rfl rfl dX0_goOn_55 ?_
        refine lv_if_ne (tgt := 65) hx hb dX0_goOn_58 (by decide) (fun c_13 => ?_) (fun c_13 => ?_)
        · skip
          rw [if_neg c_13] at hF
          exact hQ o_this _ _ _ _ dX0_goOn_65 hF.symm hP hD hS
        · skip
          rw [if_pos c_13] at hF
          refine lv_aload_n hx hb dX0_goOn_61 rfl (lv_at hl 0 rfl) ?_
          refine q_Vv (rest := []) (c_X0_finishCommand l D a_this a_this_reader a_this_printer a_this_reader_making a_this_reader_queue a_this_reader_lengths a_this_reader_record o_this o_this_reader) cv_X0_finishCommand hx hb hml hown ht hN hK hA hP hD hS hl.1 (km_X0_111) ⟨Nat.le_of_ble_eq_true rfl, Nat.le_of_ble_eq_true rfl⟩ rfl rfl [0, 1] (by decide) rfl [] rfl (fun _ => rfl) (ci := 0) rfl rfl rfl rfl rfl (Nat.le_of_ble_eq_true rfl) dX0_goOn_62 ⟨Nat.zero_le _, Nat.zero_le _⟩ (fun u H locs hw hP hD hS => ?_)
          obtain ⟨o_this_14, rfl⟩ : ∃ z, z = u := ⟨_, rfl⟩
          have hP : va_P D vwCl [(a_this, oX0 a_this_reader a_this_printer o_this_14), (a_this_reader, oX4 a_this_reader_making a_this_reader_queue a_this_reader_lengths a_this_reader_record o_this_reader)] H := hP
          have hD : va_D A [(a_this, oX0 a_this_reader a_this_printer o_this_14), (a_this_reader, oX4 a_this_reader_making a_this_reader_queue a_this_reader_lengths a_this_reader_record o_this_reader)] := hD
          rw [hw] at hF
          try dsimp only at hF
          exact hQ o_this_14 _ _ _ _ dX0_goOn_65 hF.symm hP hD hS
      · skip
        rw [if_pos c_12] at hF
        refine lv_aload_n hx hb dX0_goOn_31 rfl (lv_at hl 0 rfl) ?_
        refine lv_sipush (v := 128) hx hb dX0_goOn_32 (by decide) ?_
        refine q_Vi (rest := []) (c_X0_flagged l D a_this a_this_reader a_this_printer o_this 128) cv_X0_flagged hx hb hml hown ht hN hK hA hP hD hS hl.1 (km_X0_114) ⟨Nat.le_of_ble_eq_true rfl, Nat.le_of_ble_eq_true rfl⟩ rfl rfl [0] (by decide) rfl [] rfl (fun _ => rfl) (ci := 0) rfl rfl rfl rfl rfl (Nat.le_of_ble_eq_true rfl) dX0_goOn_35 ⟨Nat.zero_le _, Nat.zero_le _⟩ (fun r u H locs hw hP hD hS => ?_)
        obtain ⟨rfl, rfl⟩ := hw
        have hP : va_P D vwCl [(a_this, oX0 a_this_reader a_this_printer o_this), (a_this_reader, oX4 a_this_reader_making a_this_reader_queue a_this_reader_lengths a_this_reader_record o_this_reader)] H := hP
        have hD : va_D A [(a_this, oX0 a_this_reader a_this_printer o_this), (a_this_reader, oX4 a_this_reader_making a_this_reader_queue a_this_reader_lengths a_this_reader_record o_this_reader)] := hD
        refine lv_if_eq (tgt := 54) hx hb dX0_goOn_38 (by decide) (fun c_16 => ?_) (fun c_16 => ?_)
        · have c_16 : ¬ (f_X0_flagged o_this 128) = true := by rw [(bI_eq0 _).mp c_16]; decide
          rw [if_neg c_16] at hF
          refine lv_aload_n hx hb dX0_goOn_54 rfl (lv_at hl 0 rfl) ?_
          refine gf_X0_72 (v := .int o_this.2.2.2.2.2.2.2.2.2.2.1) hx hb hown ht hK hP 0 rfl rfl dX0_goOn_55 ?_
          refine lv_if_ne (tgt := 65) hx hb dX0_goOn_58 (by decide) (fun c_17 => ?_) (fun c_17 => ?_)
          · skip
            rw [if_neg c_17] at hF
            exact hQ o_this _ _ _ _ dX0_goOn_65 hF.symm hP hD hS
          · skip
            rw [if_pos c_17] at hF
            refine lv_aload_n hx hb dX0_goOn_61 rfl (lv_at hl 0 rfl) ?_
            refine q_Vv (rest := []) (c_X0_finishCommand l D a_this a_this_reader a_this_printer a_this_reader_making a_this_reader_queue a_this_reader_lengths a_this_reader_record o_this o_this_reader) cv_X0_finishCommand hx hb hml hown ht hN hK hA hP hD hS hl.1 (km_X0_111) ⟨Nat.le_of_ble_eq_true rfl, Nat.le_of_ble_eq_true rfl⟩ rfl rfl [0, 1] (by decide) rfl [] rfl (fun _ => rfl) (ci := 0) rfl rfl rfl rfl rfl (Nat.le_of_ble_eq_true rfl) dX0_goOn_62 ⟨Nat.zero_le _, Nat.zero_le _⟩ (fun u H locs hw hP hD hS => ?_)
            obtain ⟨o_this_18, rfl⟩ : ∃ z, z = u := ⟨_, rfl⟩
            have hP : va_P D vwCl [(a_this, oX0 a_this_reader a_this_printer o_this_18), (a_this_reader, oX4 a_this_reader_making a_this_reader_queue a_this_reader_lengths a_this_reader_record o_this_reader)] H := hP
            have hD : va_D A [(a_this, oX0 a_this_reader a_this_printer o_this_18), (a_this_reader, oX4 a_this_reader_making a_this_reader_queue a_this_reader_lengths a_this_reader_record o_this_reader)] := hD
            rw [hw] at hF
            try dsimp only at hF
            exact hQ o_this_18 _ _ _ _ dX0_goOn_65 hF.symm hP hD hS
        · have c_16 := (bI_ne0 _).mp c_16
          rw [if_pos c_16] at hF
          refine lv_aload_n hx hb dX0_goOn_41 rfl (lv_at hl 0 rfl) ?_
          refine lv_iconst (v := 0) hx hb dX0_goOn_42 (by decide) ?_
          refine pf_X0_49 (x := false) hx hb hown ht hK hP hD hS 0 rfl (Nat.le_of_ble_eq_true rfl) dX0_goOn_43 (fun H locs hP hD hS => ?_)
          have hP : va_P D vwCl [(a_this, oX0 a_this_reader a_this_printer (o_this.1, o_this.2.1, o_this.2.2.1, o_this.2.2.2.1, o_this.2.2.2.2.1, false, o_this.2.2.2.2.2.2.1, o_this.2.2.2.2.2.2.2.1, o_this.2.2.2.2.2.2.2.2.1, o_this.2.2.2.2.2.2.2.2.2.1, o_this.2.2.2.2.2.2.2.2.2.2.1, o_this.2.2.2.2.2.2.2.2.2.2.2.1, o_this.2.2.2.2.2.2.2.2.2.2.2.2)), (a_this_reader, oX4 a_this_reader_making a_this_reader_queue a_this_reader_lengths a_this_reader_record o_this_reader)] H := hP
          have hD : va_D A [(a_this, oX0 a_this_reader a_this_printer (o_this.1, o_this.2.1, o_this.2.2.1, o_this.2.2.2.1, o_this.2.2.2.2.1, false, o_this.2.2.2.2.2.2.1, o_this.2.2.2.2.2.2.2.1, o_this.2.2.2.2.2.2.2.2.1, o_this.2.2.2.2.2.2.2.2.2.1, o_this.2.2.2.2.2.2.2.2.2.2.1, o_this.2.2.2.2.2.2.2.2.2.2.2.1, o_this.2.2.2.2.2.2.2.2.2.2.2.2)), (a_this_reader, oX4 a_this_reader_making a_this_reader_queue a_this_reader_lengths a_this_reader_record o_this_reader)] := hD
          refine lv_aload_n hx hb dX0_goOn_46 rfl (lv_at hl 0 rfl) ?_
          refine lv_iconst (v := 1) hx hb dX0_goOn_47 (by decide) ?_
          refine pf_X0_52 (x := true) hx hb hown ht hK hP hD hS 0 rfl (Nat.le_of_ble_eq_true rfl) dX0_goOn_48 (fun H locs hP hD hS => ?_)
          have hP : va_P D vwCl [(a_this, oX0 a_this_reader a_this_printer (o_this.1, o_this.2.1, o_this.2.2.1, o_this.2.2.2.1, o_this.2.2.2.2.1, false, true, o_this.2.2.2.2.2.2.2.1, o_this.2.2.2.2.2.2.2.2.1, o_this.2.2.2.2.2.2.2.2.2.1, o_this.2.2.2.2.2.2.2.2.2.2.1, o_this.2.2.2.2.2.2.2.2.2.2.2.1, o_this.2.2.2.2.2.2.2.2.2.2.2.2)), (a_this_reader, oX4 a_this_reader_making a_this_reader_queue a_this_reader_lengths a_this_reader_record o_this_reader)] H := hP
          have hD : va_D A [(a_this, oX0 a_this_reader a_this_printer (o_this.1, o_this.2.1, o_this.2.2.1, o_this.2.2.2.1, o_this.2.2.2.2.1, false, true, o_this.2.2.2.2.2.2.2.1, o_this.2.2.2.2.2.2.2.2.1, o_this.2.2.2.2.2.2.2.2.2.1, o_this.2.2.2.2.2.2.2.2.2.2.1, o_this.2.2.2.2.2.2.2.2.2.2.2.1, o_this.2.2.2.2.2.2.2.2.2.2.2.2)), (a_this_reader, oX4 a_this_reader_making a_this_reader_queue a_this_reader_lengths a_this_reader_record o_this_reader)] := hD
          refine lv_goto (tgt := 65) hx hb dX0_goOn_51 (by decide) ?_
          exact hQ (o_this.1, o_this.2.1, o_this.2.2.1, o_this.2.2.2.1, o_this.2.2.2.2.1, false, true, o_this.2.2.2.2.2.2.2.1, o_this.2.2.2.2.2.2.2.2.1, o_this.2.2.2.2.2.2.2.2.2.1, o_this.2.2.2.2.2.2.2.2.2.2.1, o_this.2.2.2.2.2.2.2.2.2.2.2.1, o_this.2.2.2.2.2.2.2.2.2.2.2.2) _ _ _ _ dX0_goOn_65 hF.symm hP hD hS
    · have c_11 := (bI_ne0 _).mp c_11
      rw [if_pos c_11] at hF
      refine lv_aload_n hx hb dX0_goOn_17 rfl (lv_at hl 0 rfl) ?_
      refine q_Vv (rest := []) (c_X0_finishCommand l D a_this a_this_reader a_this_printer a_this_reader_making a_this_reader_queue a_this_reader_lengths a_this_reader_record o_this o_this_reader) cv_X0_finishCommand hx hb hml hown ht hN hK hA hP hD hS hl.1 (km_X0_111) ⟨Nat.le_of_ble_eq_true rfl, Nat.le_of_ble_eq_true rfl⟩ rfl rfl [0, 1] (by decide) rfl [] rfl (fun _ => rfl) (ci := 0) rfl rfl rfl rfl rfl (Nat.le_of_ble_eq_true rfl) dX0_goOn_18 ⟨Nat.zero_le _, Nat.zero_le _⟩ (fun u H locs hw hP hD hS => ?_)
      obtain ⟨o_this_19, rfl⟩ : ∃ z, z = u := ⟨_, rfl⟩
      have hP : va_P D vwCl [(a_this, oX0 a_this_reader a_this_printer o_this_19), (a_this_reader, oX4 a_this_reader_making a_this_reader_queue a_this_reader_lengths a_this_reader_record o_this_reader)] H := hP
      have hD : va_D A [(a_this, oX0 a_this_reader a_this_printer o_this_19), (a_this_reader, oX4 a_this_reader_making a_this_reader_queue a_this_reader_lengths a_this_reader_record o_this_reader)] := hD
      rw [hw] at hF
      try dsimp only at hF
      refine lv_goto (tgt := 65) hx hb dX0_goOn_21 (by decide) ?_
      exact hQ o_this_19 _ _ _ _ dX0_goOn_65 hF.symm hP hD hS
theorem cv_X0_goOn : qV yX0_goOn cX0_goOn 1 none 0 := ⟨kc_X0_goOn, kt_X0_goOn, ks_X0_goOn, kn_X0, by decide, by decide +kernel⟩
def f_X0_beginCommand (o_this : Bool × Bool × Int32 × Int32 × Int32 × Bool × Bool × Bool × Int32 × Int32 × Int32 × Int32 × Int32) (o_this_printer : Int32 × Int32) (o_this_reader : Int32 × Int32 × Int32 × Int32 × Int32) (r_this_reader_lengths : Nat → Int32) (r_this_reader_queue : Nat → Int32) (r_this_reader_record : Nat → Int32) : (Bool × Bool × Int32 × Int32 × Int32 × Bool × Bool × Bool × Int32 × Int32 × Int32 × Int32 × Int32) × (Int32 × Int32) × (Int32 × Int32 × Int32 × Int32 × Int32) × (Nat → Int32) := (if o_this.2.2.2.2.2.2.1 = true then ((o_this.1, o_this.2.1, o_this.2.2.1, o_this.2.2.2.1, o_this.2.2.2.2.1, true, o_this.2.2.2.2.2.2.1, o_this.2.2.2.2.2.2.2.1, o_this.2.2.2.2.2.2.2.2.1, o_this.2.2.2.2.2.2.2.2.2.1, o_this.2.2.2.2.2.2.2.2.2.2.1, o_this.2.2.2.2.2.2.2.2.2.2.2.1, o_this.2.2.2.2.2.2.2.2.2.2.2.2), o_this_printer, o_this_reader, r_this_reader_record) else (if (f_X0_isReading (o_this.1, o_this.2.1, o_this.2.2.1, o_this.2.2.2.1, o_this.2.2.2.2.1, true, o_this.2.2.2.2.2.2.1, o_this.2.2.2.2.2.2.2.1, o_this.2.2.2.2.2.2.2.2.1, o_this.2.2.2.2.2.2.2.2.2.1, o_this.2.2.2.2.2.2.2.2.2.2.1, o_this.2.2.2.2.2.2.2.2.2.2.2.1, o_this.2.2.2.2.2.2.2.2.2.2.2.2)) = true then (match f_X4_openRecord o_this_reader r_this_reader_lengths r_this_reader_queue r_this_reader_record with | (v_4, o_this_reader_4, r_this_reader_record_4) => (if v_4 = true then (if (f_X4_isAtEnd o_this_reader_4) = true then (match f_X0_finishCommand (o_this.1, o_this.2.1, o_this.2.2.1, o_this.2.2.2.1, o_this.2.2.2.2.1, true, o_this.2.2.2.2.2.2.1, o_this.2.2.2.2.2.2.2.1, o_this.2.2.2.2.2.2.2.2.1, o_this.2.2.2.2.2.2.2.2.2.1, o_this.2.2.2.2.2.2.2.2.2.2.1, o_this.2.2.2.2.2.2.2.2.2.2.2.1, o_this.2.2.2.2.2.2.2.2.2.2.2.2) o_this_reader_4 with | o_this_8 => (o_this_8, o_this_printer, o_this_reader_4, r_this_reader_record_4)) else ((o_this.1, o_this.2.1, o_this.2.2.1, o_this.2.2.2.1, o_this.2.2.2.2.1, true, o_this.2.2.2.2.2.2.1, o_this.2.2.2.2.2.2.2.1, o_this.2.2.2.2.2.2.2.2.1, o_this.2.2.2.2.2.2.2.2.2.1, o_this.2.2.2.2.2.2.2.2.2.2.1, o_this.2.2.2.2.2.2.2.2.2.2.2.1, o_this.2.2.2.2.2.2.2.2.2.2.2.2), o_this_printer, o_this_reader_4, r_this_reader_record_4)) else (match f_X0_end (o_this.1, o_this.2.1, o_this.2.2.1, o_this.2.2.2.1, o_this.2.2.2.2.1, true, o_this.2.2.2.2.2.2.1, o_this.2.2.2.2.2.2.2.1, o_this.2.2.2.2.2.2.2.2.1, o_this.2.2.2.2.2.2.2.2.2.1, o_this.2.2.2.2.2.2.2.2.2.2.1, o_this.2.2.2.2.2.2.2.2.2.2.2.1, o_this.2.2.2.2.2.2.2.2.2.2.2.2) 13 0 with | o_this_9 => (o_this_9, o_this_printer, o_this_reader_4, r_this_reader_record_4)))) else (match f_X2_beginLine o_this_printer with | o_this_printer_10 => ((o_this.1, o_this.2.1, o_this.2.2.1, o_this.2.2.2.1, o_this.2.2.2.2.1, true, o_this.2.2.2.2.2.2.1, o_this.2.2.2.2.2.2.2.1, o_this.2.2.2.2.2.2.2.2.1, o_this.2.2.2.2.2.2.2.2.2.1, o_this.2.2.2.2.2.2.2.2.2.2.1, o_this.2.2.2.2.2.2.2.2.2.2.2.1, o_this.2.2.2.2.2.2.2.2.2.2.2.2), o_this_printer_10, o_this_reader, r_this_reader_record))))
set_option maxHeartbeats 4000000 in
set_option maxRecDepth 100000 in
theorem c_X0_beginCommand (l : Launch) (D : va_G) (a_this a_this_printer a_this_reader a_this_reader_lengths a_this_reader_queue a_this_reader_record a_this_printer_line a_this_reader_making : Nat) (k_this_reader_lengths k_this_reader_queue k_this_reader_record : ClassId) (o_this : Bool × Bool × Int32 × Int32 × Int32 × Bool × Bool × Bool × Int32 × Int32 × Int32 × Int32 × Int32) (o_this_printer : Int32 × Int32) (o_this_reader : Int32 × Int32 × Int32 × Int32 × Int32) (r_this_reader_lengths : Nat → Int32) (r_this_reader_queue : Nat → Int32) (r_this_reader_record : Nat → Int32) (hfq : sb_Fit r_this_reader_queue) : CtV l yX0_beginCommand cX0_beginCommand 1 none { frames := 2, cells := 0, slots := 0, locals := 61 } D [.ref a_this] [(a_this, oX0 a_this_reader a_this_printer o_this), (a_this_printer, oX2 a_this_printer_line o_this_printer), (a_this_reader, oX4 a_this_reader_making a_this_reader_queue a_this_reader_lengths a_this_reader_record o_this_reader), (a_this_reader_lengths, .inl (k_this_reader_lengths, 8, .inl r_this_reader_lengths)), (a_this_reader_queue, .inl (k_this_reader_queue, 128, .inl r_this_reader_queue)), (a_this_reader_record, .inl (k_this_reader_record, 16, .inl r_this_reader_record))] [(k_this_reader_lengths, .int), (k_this_reader_queue, .byte), (k_this_reader_record, .byte)] (fun (u : (Bool × Bool × Int32 × Int32 × Int32 × Bool × Bool × Bool × Int32 × Int32 × Int32 × Int32 × Int32) × (Int32 × Int32) × (Int32 × Int32 × Int32 × Int32 × Int32) × (Nat → Int32)) => f_X0_beginCommand o_this o_this_printer o_this_reader r_this_reader_lengths r_this_reader_queue r_this_reader_record = u) (fun u => [(a_this, oX0 a_this_reader a_this_printer u.1), (a_this_printer, oX2 a_this_printer_line u.2.1), (a_this_reader, oX4 a_this_reader_making a_this_reader_queue a_this_reader_lengths a_this_reader_record u.2.2.1), (a_this_reader_lengths, .inl (k_this_reader_lengths, 8, .inl r_this_reader_lengths)), (a_this_reader_queue, .inl (k_this_reader_queue, 128, .inl r_this_reader_queue)), (a_this_reader_record, .inl (k_this_reader_record, 16, .inl u.2.2.2))]) := by
  refine CtV.of (by decide) (Nat.le_of_ble_eq_true rfl) ?_
  intro p e s m below meth c A ls Q hE hP hD hS hl hQ
  obtain ⟨hx, hb, hml, hown, ht, hN, hK, hA⟩ := hE
  have hown : s.vm.findClass RX0 = some m.cls := hown
  have hl : lv_has ls 1 [(0, .ref a_this)] := hl
  obtain ⟨F, hF⟩ : ∃ F, f_X0_beginCommand o_this o_this_printer o_this_reader r_this_reader_lengths r_this_reader_queue r_this_reader_record = F := ⟨_, rfl⟩
  rw [hF] at hQ
  unfold f_X0_beginCommand at hF
  refine lv_aload_n hx hb dX0_beginCommand_0 rfl (lv_at hl 0 rfl) ?_
  refine lv_iconst (v := 1) hx hb dX0_beginCommand_1 (by decide) ?_
  refine pf_X0_49 (x := true) hx hb hown ht hK hP hD hS 0 rfl (Nat.le_of_ble_eq_true rfl) dX0_beginCommand_2 (fun H locs hP hD hS => ?_)
  have hP : va_P D vwCl [(a_this, oX0 a_this_reader a_this_printer (o_this.1, o_this.2.1, o_this.2.2.1, o_this.2.2.2.1, o_this.2.2.2.2.1, true, o_this.2.2.2.2.2.2.1, o_this.2.2.2.2.2.2.2.1, o_this.2.2.2.2.2.2.2.2.1, o_this.2.2.2.2.2.2.2.2.2.1, o_this.2.2.2.2.2.2.2.2.2.2.1, o_this.2.2.2.2.2.2.2.2.2.2.2.1, o_this.2.2.2.2.2.2.2.2.2.2.2.2)), (a_this_printer, oX2 a_this_printer_line o_this_printer), (a_this_reader, oX4 a_this_reader_making a_this_reader_queue a_this_reader_lengths a_this_reader_record o_this_reader), (a_this_reader_lengths, .inl (k_this_reader_lengths, 8, .inl r_this_reader_lengths)), (a_this_reader_queue, .inl (k_this_reader_queue, 128, .inl r_this_reader_queue)), (a_this_reader_record, .inl (k_this_reader_record, 16, .inl r_this_reader_record))] H := hP
  have hD : va_D A [(a_this, oX0 a_this_reader a_this_printer (o_this.1, o_this.2.1, o_this.2.2.1, o_this.2.2.2.1, o_this.2.2.2.2.1, true, o_this.2.2.2.2.2.2.1, o_this.2.2.2.2.2.2.2.1, o_this.2.2.2.2.2.2.2.2.1, o_this.2.2.2.2.2.2.2.2.2.1, o_this.2.2.2.2.2.2.2.2.2.2.1, o_this.2.2.2.2.2.2.2.2.2.2.2.1, o_this.2.2.2.2.2.2.2.2.2.2.2.2)), (a_this_printer, oX2 a_this_printer_line o_this_printer), (a_this_reader, oX4 a_this_reader_making a_this_reader_queue a_this_reader_lengths a_this_reader_record o_this_reader), (a_this_reader_lengths, .inl (k_this_reader_lengths, 8, .inl r_this_reader_lengths)), (a_this_reader_queue, .inl (k_this_reader_queue, 128, .inl r_this_reader_queue)), (a_this_reader_record, .inl (k_this_reader_record, 16, .inl r_this_reader_record))] := hD
  refine lv_aload_n hx hb dX0_beginCommand_5 rfl (lv_at hl 0 rfl) ?_
  refine gf_X0_52 (v := .int (bI o_this.2.2.2.2.2.2.1)) hx hb hown ht hK hP 0 rfl rfl dX0_beginCommand_6 ?_
  refine lv_if_eq (tgt := 13) hx hb dX0_beginCommand_9 (by decide) (fun c_1 => ?_) (fun c_1 => ?_)
  · have c_1 : ¬ o_this.2.2.2.2.2.2.1 = true := by rw [(bI_eq0 _).mp c_1]; decide
    rw [if_neg c_1] at hF
    refine lv_aload_n hx hb dX0_beginCommand_13 rfl (lv_at hl 0 rfl) ?_
    refine q_Vi (rest := []) (c_X0_isReading l D a_this a_this_reader a_this_printer (o_this.1, o_this.2.1, o_this.2.2.1, o_this.2.2.2.1, o_this.2.2.2.2.1, true, o_this.2.2.2.2.2.2.1, o_this.2.2.2.2.2.2.2.1, o_this.2.2.2.2.2.2.2.2.1, o_this.2.2.2.2.2.2.2.2.2.1, o_this.2.2.2.2.2.2.2.2.2.2.1, o_this.2.2.2.2.2.2.2.2.2.2.2.1, o_this.2.2.2.2.2.2.2.2.2.2.2.2)) cv_X0_isReading hx hb hml hown ht hN hK hA hP hD hS hl.1 (km_X0_98) ⟨Nat.le_of_ble_eq_true rfl, Nat.le_of_ble_eq_true rfl⟩ rfl rfl [0] (by decide) rfl [] rfl (fun _ => rfl) (ci := 0) rfl rfl rfl rfl rfl (Nat.le_of_ble_eq_true rfl) dX0_beginCommand_14 ⟨Nat.zero_le _, Nat.zero_le _⟩ (fun r u H locs hw hP hD hS => ?_)
    obtain ⟨rfl, rfl⟩ := hw
    have hP : va_P D vwCl [(a_this, oX0 a_this_reader a_this_printer (o_this.1, o_this.2.1, o_this.2.2.1, o_this.2.2.2.1, o_this.2.2.2.2.1, true, o_this.2.2.2.2.2.2.1, o_this.2.2.2.2.2.2.2.1, o_this.2.2.2.2.2.2.2.2.1, o_this.2.2.2.2.2.2.2.2.2.1, o_this.2.2.2.2.2.2.2.2.2.2.1, o_this.2.2.2.2.2.2.2.2.2.2.2.1, o_this.2.2.2.2.2.2.2.2.2.2.2.2)), (a_this_printer, oX2 a_this_printer_line o_this_printer), (a_this_reader, oX4 a_this_reader_making a_this_reader_queue a_this_reader_lengths a_this_reader_record o_this_reader), (a_this_reader_lengths, .inl (k_this_reader_lengths, 8, .inl r_this_reader_lengths)), (a_this_reader_queue, .inl (k_this_reader_queue, 128, .inl r_this_reader_queue)), (a_this_reader_record, .inl (k_this_reader_record, 16, .inl r_this_reader_record))] H := hP
    have hD : va_D A [(a_this, oX0 a_this_reader a_this_printer (o_this.1, o_this.2.1, o_this.2.2.1, o_this.2.2.2.1, o_this.2.2.2.2.1, true, o_this.2.2.2.2.2.2.1, o_this.2.2.2.2.2.2.2.1, o_this.2.2.2.2.2.2.2.2.1, o_this.2.2.2.2.2.2.2.2.2.1, o_this.2.2.2.2.2.2.2.2.2.2.1, o_this.2.2.2.2.2.2.2.2.2.2.2.1, o_this.2.2.2.2.2.2.2.2.2.2.2.2)), (a_this_printer, oX2 a_this_printer_line o_this_printer), (a_this_reader, oX4 a_this_reader_making a_this_reader_queue a_this_reader_lengths a_this_reader_record o_this_reader), (a_this_reader_lengths, .inl (k_this_reader_lengths, 8, .inl r_this_reader_lengths)), (a_this_reader_queue, .inl (k_this_reader_queue, 128, .inl r_this_reader_queue)), (a_this_reader_record, .inl (k_this_reader_record, 16, .inl r_this_reader_record))] := hD
    refine lv_if_ne (tgt := 30) hx hb dX0_beginCommand_17 (by decide) (fun c_3 => ?_) (fun c_3 => ?_)
    · have c_3 := (bI_ne0 _).mp c_3
      rw [if_pos c_3] at hF
      refine lv_aload_n hx hb dX0_beginCommand_30 rfl (lv_at hl 0 rfl) ?_
      refine gf_X0_12 (v := .ref a_this_reader) hx hb hown ht hK hP 0 rfl rfl dX0_beginCommand_31 ?_
      refine q_Vi (rest := []) (c_X4_openRecord l D a_this_reader a_this_reader_lengths a_this_reader_queue a_this_reader_record a_this_reader_making k_this_reader_lengths k_this_reader_queue k_this_reader_record o_this_reader r_this_reader_lengths r_this_reader_queue r_this_reader_record hfq) cv_X4_openRecord hx hb hml hown ht hN hK hA hP hD hS hl.1 (km_X0_105) ⟨Nat.le_of_ble_eq_true rfl, Nat.le_of_ble_eq_true rfl⟩ rfl rfl [2, 3, 4, 5] (by decide) rfl [0, 1, 2] rfl (fun _ => rfl) (ci := 4) rfl rfl rfl rfl rfl (Nat.le_of_ble_eq_true rfl) dX0_beginCommand_34 ⟨Nat.zero_le _, Nat.zero_le _⟩ (fun r u H locs hw hP hD hS => ?_)
      obtain ⟨v_4, o_this_reader_4, r_this_reader_record_4⟩ := u
      obtain ⟨hw, hr⟩ := hw
      have hr : bI v_4 = r := hr.symm
      subst hr
      have hP : va_P D vwCl [(a_this, oX0 a_this_reader a_this_printer (o_this.1, o_this.2.1, o_this.2.2.1, o_this.2.2.2.1, o_this.2.2.2.2.1, true, o_this.2.2.2.2.2.2.1, o_this.2.2.2.2.2.2.2.1, o_this.2.2.2.2.2.2.2.2.1, o_this.2.2.2.2.2.2.2.2.2.1, o_this.2.2.2.2.2.2.2.2.2.2.1, o_this.2.2.2.2.2.2.2.2.2.2.2.1, o_this.2.2.2.2.2.2.2.2.2.2.2.2)), (a_this_printer, oX2 a_this_printer_line o_this_printer), (a_this_reader, oX4 a_this_reader_making a_this_reader_queue a_this_reader_lengths a_this_reader_record o_this_reader_4), (a_this_reader_lengths, .inl (k_this_reader_lengths, 8, .inl r_this_reader_lengths)), (a_this_reader_queue, .inl (k_this_reader_queue, 128, .inl r_this_reader_queue)), (a_this_reader_record, .inl (k_this_reader_record, 16, .inl r_this_reader_record_4))] H := hP
      have hD : va_D A [(a_this, oX0 a_this_reader a_this_printer (o_this.1, o_this.2.1, o_this.2.2.1, o_this.2.2.2.1, o_this.2.2.2.2.1, true, o_this.2.2.2.2.2.2.1, o_this.2.2.2.2.2.2.2.1, o_this.2.2.2.2.2.2.2.2.1, o_this.2.2.2.2.2.2.2.2.2.1, o_this.2.2.2.2.2.2.2.2.2.2.1, o_this.2.2.2.2.2.2.2.2.2.2.2.1, o_this.2.2.2.2.2.2.2.2.2.2.2.2)), (a_this_printer, oX2 a_this_printer_line o_this_printer), (a_this_reader, oX4 a_this_reader_making a_this_reader_queue a_this_reader_lengths a_this_reader_record o_this_reader_4), (a_this_reader_lengths, .inl (k_this_reader_lengths, 8, .inl r_this_reader_lengths)), (a_this_reader_queue, .inl (k_this_reader_queue, 128, .inl r_this_reader_queue)), (a_this_reader_record, .inl (k_this_reader_record, 16, .inl r_this_reader_record_4))] := hD
      rw [hw] at hF
      try dsimp only at hF
      refine lv_if_ne (tgt := 50) hx hb dX0_beginCommand_37 (by decide) (fun c_5 => ?_) (fun c_5 => ?_)
      · have c_5 := (bI_ne0 _).mp c_5
        rw [if_pos c_5] at hF
        refine lv_aload_n hx hb dX0_beginCommand_50 rfl (lv_at hl 0 rfl) ?_
        refine gf_X0_12 (v := .ref a_this_reader) hx hb hown ht hK hP 0 rfl rfl dX0_beginCommand_51 ?_
        refine q_Vi (rest := []) (c_X4_isAtEnd l D a_this_reader a_this_reader_making a_this_reader_queue a_this_reader_lengths a_this_reader_record o_this_reader_4) cv_X4_isAtEnd hx hb hml hown ht hN hK hA hP hD hS hl.1 (km_X0_108) ⟨Nat.le_of_ble_eq_true rfl, Nat.le_of_ble_eq_true rfl⟩ rfl rfl [2] (by decide) rfl [] rfl (fun _ => rfl) (ci := 4) rfl rfl rfl rfl rfl (Nat.le_of_ble_eq_true rfl) dX0_beginCommand_54 ⟨Nat.zero_le _, Nat.zero_le _⟩ (fun r u H locs hw hP hD hS => ?_)
        obtain ⟨rfl, rfl⟩ := hw
        have hP : va_P D vwCl [(a_this, oX0 a_this_reader a_this_printer (o_this.1, o_this.2.1, o_this.2.2.1, o_this.2.2.2.1, o_this.2.2.2.2.1, true, o_this.2.2.2.2.2.2.1, o_this.2.2.2.2.2.2.2.1, o_this.2.2.2.2.2.2.2.2.1, o_this.2.2.2.2.2.2.2.2.2.1, o_this.2.2.2.2.2.2.2.2.2.2.1, o_this.2.2.2.2.2.2.2.2.2.2.2.1, o_this.2.2.2.2.2.2.2.2.2.2.2.2)), (a_this_printer, oX2 a_this_printer_line o_this_printer), (a_this_reader, oX4 a_this_reader_making a_this_reader_queue a_this_reader_lengths a_this_reader_record o_this_reader_4), (a_this_reader_lengths, .inl (k_this_reader_lengths, 8, .inl r_this_reader_lengths)), (a_this_reader_queue, .inl (k_this_reader_queue, 128, .inl r_this_reader_queue)), (a_this_reader_record, .inl (k_this_reader_record, 16, .inl r_this_reader_record_4))] H := hP
        have hD : va_D A [(a_this, oX0 a_this_reader a_this_printer (o_this.1, o_this.2.1, o_this.2.2.1, o_this.2.2.2.1, o_this.2.2.2.2.1, true, o_this.2.2.2.2.2.2.1, o_this.2.2.2.2.2.2.2.1, o_this.2.2.2.2.2.2.2.2.1, o_this.2.2.2.2.2.2.2.2.2.1, o_this.2.2.2.2.2.2.2.2.2.2.1, o_this.2.2.2.2.2.2.2.2.2.2.2.1, o_this.2.2.2.2.2.2.2.2.2.2.2.2)), (a_this_printer, oX2 a_this_printer_line o_this_printer), (a_this_reader, oX4 a_this_reader_making a_this_reader_queue a_this_reader_lengths a_this_reader_record o_this_reader_4), (a_this_reader_lengths, .inl (k_this_reader_lengths, 8, .inl r_this_reader_lengths)), (a_this_reader_queue, .inl (k_this_reader_queue, 128, .inl r_this_reader_queue)), (a_this_reader_record, .inl (k_this_reader_record, 16, .inl r_this_reader_record_4))] := hD
        refine lv_if_eq (tgt := 64) hx hb dX0_beginCommand_57 (by decide) (fun c_7 => ?_) (fun c_7 => ?_)
        · have c_7 : ¬ (f_X4_isAtEnd o_this_reader_4) = true := by rw [(bI_eq0 _).mp c_7]; decide
          rw [if_neg c_7] at hF
          exact hQ ((o_this.1, o_this.2.1, o_this.2.2.1, o_this.2.2.2.1, o_this.2.2.2.2.1, true, o_this.2.2.2.2.2.2.1, o_this.2.2.2.2.2.2.2.1, o_this.2.2.2.2.2.2.2.2.1, o_this.2.2.2.2.2.2.2.2.2.1, o_this.2.2.2.2.2.2.2.2.2.2.1, o_this.2.2.2.2.2.2.2.2.2.2.2.1, o_this.2.2.2.2.2.2.2.2.2.2.2.2), o_this_printer, o_this_reader_4, r_this_reader_record_4) _ _ _ _ dX0_beginCommand_64 hF.symm hP hD hS
        · have c_7 := (bI_ne0 _).mp c_7
          rw [if_pos c_7] at hF
          refine lv_aload_n hx hb dX0_beginCommand_60 rfl (lv_at hl 0 rfl) ?_
          refine q_Vv (rest := []) (c_X0_finishCommand l D a_this a_this_reader a_this_printer a_this_reader_making a_this_reader_queue a_this_reader_lengths a_this_reader_record (o_this.1, o_this.2.1, o_this.2.2.1, o_this.2.2.2.1, o_this.2.2.2.2.1, true, o_this.2.2.2.2.2.2.1, o_this.2.2.2.2.2.2.2.1, o_this.2.2.2.2.2.2.2.2.1, o_this.2.2.2.2.2.2.2.2.2.1, o_this.2.2.2.2.2.2.2.2.2.2.1, o_this.2.2.2.2.2.2.2.2.2.2.2.1, o_this.2.2.2.2.2.2.2.2.2.2.2.2) o_this_reader_4) cv_X0_finishCommand hx hb hml hown ht hN hK hA hP hD hS hl.1 (km_X0_111) ⟨Nat.le_of_ble_eq_true rfl, Nat.le_of_ble_eq_true rfl⟩ rfl rfl [0, 2] (by decide) rfl [] rfl (fun _ => rfl) (ci := 0) rfl rfl rfl rfl rfl (Nat.le_of_ble_eq_true rfl) dX0_beginCommand_61 ⟨Nat.zero_le _, Nat.zero_le _⟩ (fun u H locs hw hP hD hS => ?_)
          obtain ⟨o_this_8, rfl⟩ : ∃ z, z = u := ⟨_, rfl⟩
          have hP : va_P D vwCl [(a_this, oX0 a_this_reader a_this_printer o_this_8), (a_this_printer, oX2 a_this_printer_line o_this_printer), (a_this_reader, oX4 a_this_reader_making a_this_reader_queue a_this_reader_lengths a_this_reader_record o_this_reader_4), (a_this_reader_lengths, .inl (k_this_reader_lengths, 8, .inl r_this_reader_lengths)), (a_this_reader_queue, .inl (k_this_reader_queue, 128, .inl r_this_reader_queue)), (a_this_reader_record, .inl (k_this_reader_record, 16, .inl r_this_reader_record_4))] H := hP
          have hD : va_D A [(a_this, oX0 a_this_reader a_this_printer o_this_8), (a_this_printer, oX2 a_this_printer_line o_this_printer), (a_this_reader, oX4 a_this_reader_making a_this_reader_queue a_this_reader_lengths a_this_reader_record o_this_reader_4), (a_this_reader_lengths, .inl (k_this_reader_lengths, 8, .inl r_this_reader_lengths)), (a_this_reader_queue, .inl (k_this_reader_queue, 128, .inl r_this_reader_queue)), (a_this_reader_record, .inl (k_this_reader_record, 16, .inl r_this_reader_record_4))] := hD
          rw [hw] at hF
          try dsimp only at hF
          exact hQ (o_this_8, o_this_printer, o_this_reader_4, r_this_reader_record_4) _ _ _ _ dX0_beginCommand_64 hF.symm hP hD hS
      · have c_5 : ¬ v_4 = true := by rw [(bI_eq0 _).mp c_5]; decide
        rw [if_neg c_5] at hF
        refine lv_aload_n hx hb dX0_beginCommand_40 rfl (lv_at hl 0 rfl) ?_
        refine lv_bipush (v := 13) hx hb dX0_beginCommand_41 (by decide) ?_
        refine lv_iconst (v := 0) hx hb dX0_beginCommand_43 (by decide) ?_
        refine q_Vv (rest := []) (c_X0_end l D a_this a_this_reader a_this_printer (o_this.1, o_this.2.1, o_this.2.2.1, o_this.2.2.2.1, o_this.2.2.2.2.1, true, o_this.2.2.2.2.2.2.1, o_this.2.2.2.2.2.2.2.1, o_this.2.2.2.2.2.2.2.2.1, o_this.2.2.2.2.2.2.2.2.2.1, o_this.2.2.2.2.2.2.2.2.2.2.1, o_this.2.2.2.2.2.2.2.2.2.2.2.1, o_this.2.2.2.2.2.2.2.2.2.2.2.2) 13 0) cv_X0_end hx hb hml hown ht hN hK hA hP hD hS hl.1 (km_X0_75) ⟨Nat.le_of_ble_eq_true rfl, Nat.le_of_ble_eq_true rfl⟩ rfl rfl [0] (by decide) rfl [] rfl (fun _ => rfl) (ci := 0) rfl rfl rfl rfl rfl (Nat.le_of_ble_eq_true rfl) dX0_beginCommand_44 ⟨Nat.zero_le _, Nat.zero_le _⟩ (fun u H locs hw hP hD hS => ?_)
        obtain ⟨o_this_9, rfl⟩ : ∃ z, z = u := ⟨_, rfl⟩
        have hP : va_P D vwCl [(a_this, oX0 a_this_reader a_this_printer o_this_9), (a_this_printer, oX2 a_this_printer_line o_this_printer), (a_this_reader, oX4 a_this_reader_making a_this_reader_queue a_this_reader_lengths a_this_reader_record o_this_reader_4), (a_this_reader_lengths, .inl (k_this_reader_lengths, 8, .inl r_this_reader_lengths)), (a_this_reader_queue, .inl (k_this_reader_queue, 128, .inl r_this_reader_queue)), (a_this_reader_record, .inl (k_this_reader_record, 16, .inl r_this_reader_record_4))] H := hP
        have hD : va_D A [(a_this, oX0 a_this_reader a_this_printer o_this_9), (a_this_printer, oX2 a_this_printer_line o_this_printer), (a_this_reader, oX4 a_this_reader_making a_this_reader_queue a_this_reader_lengths a_this_reader_record o_this_reader_4), (a_this_reader_lengths, .inl (k_this_reader_lengths, 8, .inl r_this_reader_lengths)), (a_this_reader_queue, .inl (k_this_reader_queue, 128, .inl r_this_reader_queue)), (a_this_reader_record, .inl (k_this_reader_record, 16, .inl r_this_reader_record_4))] := hD
        rw [hw] at hF
        try dsimp only at hF
        refine lv_goto (tgt := 64) hx hb dX0_beginCommand_47 (by decide) ?_
        exact hQ (o_this_9, o_this_printer, o_this_reader_4, r_this_reader_record_4) _ _ _ _ dX0_beginCommand_64 hF.symm hP hD hS
    · have c_3 : ¬ (f_X0_isReading (o_this.1, o_this.2.1, o_this.2.2.1, o_this.2.2.2.1, o_this.2.2.2.2.1, true, o_this.2.2.2.2.2.2.1, o_this.2.2.2.2.2.2.2.1, o_this.2.2.2.2.2.2.2.2.1, o_this.2.2.2.2.2.2.2.2.2.1, o_this.2.2.2.2.2.2.2.2.2.2.1, o_this.2.2.2.2.2.2.2.2.2.2.2.1, o_this.2.2.2.2.2.2.2.2.2.2.2.2)) = true := by rw [(bI_eq0 _).mp c_3]; decide
      rw [if_neg c_3] at hF
      refine lv_aload_n hx hb dX0_beginCommand_20 rfl (lv_at hl 0 rfl) ?_
      refine gf_X0_21 (v := .ref a_this_printer) hx hb hown ht hK hP 0 rfl rfl dX0_beginCommand_21 ?_
      refine q_Vv (rest := []) (c_X2_beginLine l D a_this_printer a_this_printer_line o_this_printer) cv_X2_beginLine hx hb hml hown ht hN hK hA hP hD hS hl.1 (km_X0_102) ⟨Nat.le_of_ble_eq_true rfl, Nat.le_of_ble_eq_true rfl⟩ rfl rfl [1] (by decide) rfl [] rfl (fun _ => rfl) (ci := 2) rfl rfl rfl rfl rfl (Nat.le_of_ble_eq_true rfl) dX0_beginCommand_24 ⟨Nat.zero_le _, Nat.zero_le _⟩ (fun u H locs hw hP hD hS => ?_)
      obtain ⟨o_this_printer_10, rfl⟩ : ∃ z, z = u := ⟨_, rfl⟩
      have hP : va_P D vwCl [(a_this, oX0 a_this_reader a_this_printer (o_this.1, o_this.2.1, o_this.2.2.1, o_this.2.2.2.1, o_this.2.2.2.2.1, true, o_this.2.2.2.2.2.2.1, o_this.2.2.2.2.2.2.2.1, o_this.2.2.2.2.2.2.2.2.1, o_this.2.2.2.2.2.2.2.2.2.1, o_this.2.2.2.2.2.2.2.2.2.2.1, o_this.2.2.2.2.2.2.2.2.2.2.2.1, o_this.2.2.2.2.2.2.2.2.2.2.2.2)), (a_this_printer, oX2 a_this_printer_line o_this_printer_10), (a_this_reader, oX4 a_this_reader_making a_this_reader_queue a_this_reader_lengths a_this_reader_record o_this_reader), (a_this_reader_lengths, .inl (k_this_reader_lengths, 8, .inl r_this_reader_lengths)), (a_this_reader_queue, .inl (k_this_reader_queue, 128, .inl r_this_reader_queue)), (a_this_reader_record, .inl (k_this_reader_record, 16, .inl r_this_reader_record))] H := hP
      have hD : va_D A [(a_this, oX0 a_this_reader a_this_printer (o_this.1, o_this.2.1, o_this.2.2.1, o_this.2.2.2.1, o_this.2.2.2.2.1, true, o_this.2.2.2.2.2.2.1, o_this.2.2.2.2.2.2.2.1, o_this.2.2.2.2.2.2.2.2.1, o_this.2.2.2.2.2.2.2.2.2.1, o_this.2.2.2.2.2.2.2.2.2.2.1, o_this.2.2.2.2.2.2.2.2.2.2.2.1, o_this.2.2.2.2.2.2.2.2.2.2.2.2)), (a_this_printer, oX2 a_this_printer_line o_this_printer_10), (a_this_reader, oX4 a_this_reader_making a_this_reader_queue a_this_reader_lengths a_this_reader_record o_this_reader), (a_this_reader_lengths, .inl (k_this_reader_lengths, 8, .inl r_this_reader_lengths)), (a_this_reader_queue, .inl (k_this_reader_queue, 128, .inl r_this_reader_queue)), (a_this_reader_record, .inl (k_this_reader_record, 16, .inl r_this_reader_record))] := hD
      rw [hw] at hF
      try dsimp only at hF
      refine lv_goto (tgt := 64) hx hb dX0_beginCommand_27 (by decide) ?_
      exact hQ ((o_this.1, o_this.2.1, o_this.2.2.1, o_this.2.2.2.1, o_this.2.2.2.2.1, true, o_this.2.2.2.2.2.2.1, o_this.2.2.2.2.2.2.2.1, o_this.2.2.2.2.2.2.2.2.1, o_this.2.2.2.2.2.2.2.2.2.1, o_this.2.2.2.2.2.2.2.2.2.2.1, o_this.2.2.2.2.2.2.2.2.2.2.2.1, o_this.2.2.2.2.2.2.2.2.2.2.2.2), o_this_printer_10, o_this_reader, r_this_reader_record) _ _ _ _ dX0_beginCommand_64 hF.symm hP hD hS
  · have c_1 := (bI_ne0 _).mp c_1
    rw [if_pos c_1] at hF
    exact hQ ((o_this.1, o_this.2.1, o_this.2.2.1, o_this.2.2.2.1, o_this.2.2.2.2.1, true, o_this.2.2.2.2.2.2.1, o_this.2.2.2.2.2.2.2.1, o_this.2.2.2.2.2.2.2.2.1, o_this.2.2.2.2.2.2.2.2.2.1, o_this.2.2.2.2.2.2.2.2.2.2.1, o_this.2.2.2.2.2.2.2.2.2.2.2.1, o_this.2.2.2.2.2.2.2.2.2.2.2.2), o_this_printer, o_this_reader, r_this_reader_record) _ _ _ _ dX0_beginCommand_12 hF.symm hP hD hS
theorem cv_X0_beginCommand : qV yX0_beginCommand cX0_beginCommand 1 none 0 := ⟨kc_X0_beginCommand, kt_X0_beginCommand, ks_X0_beginCommand, kn_X0, by decide, by decide +kernel⟩
def f_X0_takeCommand (o_this : Bool × Bool × Int32 × Int32 × Int32 × Bool × Bool × Bool × Int32 × Int32 × Int32 × Int32 × Int32) (o_this_printer : Int32 × Int32) (o_this_reader : Int32 × Int32 × Int32 × Int32 × Int32) (r_this_reader_lengths : Nat → Int32) (r_this_reader_queue : Nat → Int32) (r_this_reader_record : Nat → Int32) (r_p1_bytes : Nat → Int32) : (Bool × Bool × Int32 × Int32 × Int32 × Bool × Bool × Bool × Int32 × Int32 × Int32 × Int32 × Int32) × (Int32 × Int32) × (Int32 × Int32 × Int32 × Int32 × Int32) × (Nat → Int32) := (if (o_this.2.2.2.2.1 - o_this.2.2.2.2.1 / (8 : Int32) * (8 : Int32)) = 0 then (if (f_X6_holds o_this.2.2.2.2.1 8) = true then (if (f_X0_isTakeable (o_this.1, o_this.2.1, o_this.2.2.1, o_this.2.2.2.1, ((o_this.2.2.2.2.1 + (8 : Int32)) &&& (16777215 : Int32)), o_this.2.2.2.2.2.1, o_this.2.2.2.2.2.2.1, o_this.2.2.2.2.2.2.2.1, ((f_X6_wordAt r_p1_bytes o_this.2.2.2.2.1) &&& (16777215 : Int32)), (f_X6_byteAt r_p1_bytes (o_this.2.2.2.2.1 + (4 : Int32))), (f_X6_halfAt r_p1_bytes (o_this.2.2.2.2.1 + (6 : Int32))), o_this.2.2.2.2.2.2.2.2.2.2.2.1, o_this.2.2.2.2.2.2.2.2.2.2.2.2) (f_X6_byteAt r_p1_bytes o_this.2.2.2.2.1)) = true then (if (f_X6_byteAt r_p1_bytes o_this.2.2.2.2.1) = (8 : Int32) then ((o_this.1, o_this.2.1, o_this.2.2.1, o_this.2.2.2.1, ((f_X6_wordAt r_p1_bytes o_this.2.2.2.2.1) &&& (16777215 : Int32)), o_this.2.2.2.2.2.1, o_this.2.2.2.2.2.2.1, true, ((f_X6_wordAt r_p1_bytes o_this.2.2.2.2.1) &&& (16777215 : Int32)), (f_X6_byteAt r_p1_bytes (o_this.2.2.2.2.1 + (4 : Int32))), (f_X6_halfAt r_p1_bytes (o_this.2.2.2.2.1 + (6 : Int32))), o_this.2.2.2.2.2.2.2.2.2.2.2.1, o_this.2.2.2.2.2.2.2.2.2.2.2.2), o_this_printer, o_this_reader, r_this_reader_record) else (match f_X0_beginCommand (o_this.1, o_this.2.1, o_this.2.2.1, o_this.2.2.2.1, ((o_this.2.2.2.2.1 + (8 : Int32)) &&& (16777215 : Int32)), o_this.2.2.2.2.2.1, o_this.2.2.2.2.2.2.1, false, ((f_X6_wordAt r_p1_bytes o_this.2.2.2.2.1) &&& (16777215 : Int32)), (f_X6_byteAt r_p1_bytes (o_this.2.2.2.2.1 + (4 : Int32))), (f_X6_halfAt r_p1_bytes (o_this.2.2.2.2.1 + (6 : Int32))), o_this.2.2.2.2.2.2.2.2.2.2.2.1, o_this.2.2.2.2.2.2.2.2.2.2.2.2) o_this_printer o_this_reader r_this_reader_lengths r_this_reader_queue r_this_reader_record with | (o_this_12, o_this_printer_12, o_this_reader_12, r_this_reader_record_12) => (o_this_12, o_this_printer_12, o_this_reader_12, r_this_reader_record_12))) else (match f_X0_end (o_this.1, o_this.2.1, o_this.2.2.1, o_this.2.2.2.1, ((o_this.2.2.2.2.1 + (8 : Int32)) &&& (16777215 : Int32)), o_this.2.2.2.2.2.1, o_this.2.2.2.2.2.2.1, o_this.2.2.2.2.2.2.2.1, ((f_X6_wordAt r_p1_bytes o_this.2.2.2.2.1) &&& (16777215 : Int32)), (f_X6_byteAt r_p1_bytes (o_this.2.2.2.2.1 + (4 : Int32))), (f_X6_halfAt r_p1_bytes (o_this.2.2.2.2.1 + (6 : Int32))), o_this.2.2.2.2.2.2.2.2.2.2.2.1, o_this.2.2.2.2.2.2.2.2.2.2.2.2) 0 32 with | o_this_13 => (o_this_13, o_this_printer, o_this_reader, r_this_reader_record))) else (match f_X0_end (o_this.1, o_this.2.1, o_this.2.2.1, o_this.2.2.2.1, ((o_this.2.2.2.2.1 + (8 : Int32)) &&& (16777215 : Int32)), o_this.2.2.2.2.2.1, o_this.2.2.2.2.2.2.1, o_this.2.2.2.2.2.2.2.1, o_this.2.2.2.2.2.2.2.2.1, o_this.2.2.2.2.2.2.2.2.2.1, 0, o_this.2.2.2.2.2.2.2.2.2.2.2.1, o_this.2.2.2.2.2.2.2.2.2.2.2.2) 0 32 with | o_this_14 => (o_this_14, o_this_printer, o_this_reader, r_this_reader_record))) else (match f_X0_end (o_this.1, o_this.2.1, o_this.2.2.1, o_this.2.2.2.1, ((o_this.2.2.2.2.1 + (8 : Int32)) &&& (16777215 : Int32)), o_this.2.2.2.2.2.1, o_this.2.2.2.2.2.2.1, o_this.2.2.2.2.2.2.2.1, o_this.2.2.2.2.2.2.2.2.1, o_this.2.2.2.2.2.2.2.2.2.1, 0, o_this.2.2.2.2.2.2.2.2.2.2.2.1, o_this.2.2.2.2.2.2.2.2.2.2.2.2) 0 32 with | o_this_2 => (o_this_2, o_this_printer, o_this_reader, r_this_reader_record)))
set_option maxHeartbeats 4000000 in
set_option maxRecDepth 100000 in
theorem c_X0_takeCommand (l : Launch) (D : va_G) (a_this a_this_printer a_this_reader a_this_reader_lengths a_this_reader_queue a_this_reader_record a_p1 a_p1_bytes a_this_printer_line a_this_reader_making a_p1_keys : Nat) (k_this_reader_lengths k_this_reader_queue k_this_reader_record k_p1_bytes : ClassId) (o_this : Bool × Bool × Int32 × Int32 × Int32 × Bool × Bool × Bool × Int32 × Int32 × Int32 × Int32 × Int32) (o_this_printer : Int32 × Int32) (o_this_reader : Int32 × Int32 × Int32 × Int32 × Int32) (r_this_reader_lengths : Nat → Int32) (r_this_reader_queue : Nat → Int32) (r_this_reader_record : Nat → Int32) (r_p1_bytes : Nat → Int32) (hfq : sb_Fit r_this_reader_queue) : CtV l yX0_takeCommand cX0_takeCommand 4 none { frames := 3, cells := 0, slots := 0, locals := 81 } D [.ref a_this, .ref a_p1] [(a_this, oX0 a_this_reader a_this_printer o_this), (a_this_printer, oX2 a_this_printer_line o_this_printer), (a_this_reader, oX4 a_this_reader_making a_this_reader_queue a_this_reader_lengths a_this_reader_record o_this_reader), (a_this_reader_lengths, .inl (k_this_reader_lengths, 8, .inl r_this_reader_lengths)), (a_this_reader_queue, .inl (k_this_reader_queue, 128, .inl r_this_reader_queue)), (a_this_reader_record, .inl (k_this_reader_record, 16, .inl r_this_reader_record)), (a_p1, oX6 a_p1_bytes a_p1_keys), (a_p1_bytes, .inl (k_p1_bytes, 2048, .inl r_p1_bytes))] [(k_this_reader_lengths, .int), (k_this_reader_queue, .byte), (k_this_reader_record, .byte), (k_p1_bytes, .byte)] (fun (u : (Bool × Bool × Int32 × Int32 × Int32 × Bool × Bool × Bool × Int32 × Int32 × Int32 × Int32 × Int32) × (Int32 × Int32) × (Int32 × Int32 × Int32 × Int32 × Int32) × (Nat → Int32)) => f_X0_takeCommand o_this o_this_printer o_this_reader r_this_reader_lengths r_this_reader_queue r_this_reader_record r_p1_bytes = u) (fun u => [(a_this, oX0 a_this_reader a_this_printer u.1), (a_this_printer, oX2 a_this_printer_line u.2.1), (a_this_reader, oX4 a_this_reader_making a_this_reader_queue a_this_reader_lengths a_this_reader_record u.2.2.1), (a_this_reader_lengths, .inl (k_this_reader_lengths, 8, .inl r_this_reader_lengths)), (a_this_reader_queue, .inl (k_this_reader_queue, 128, .inl r_this_reader_queue)), (a_this_reader_record, .inl (k_this_reader_record, 16, .inl u.2.2.2)), (a_p1, oX6 a_p1_bytes a_p1_keys), (a_p1_bytes, .inl (k_p1_bytes, 2048, .inl r_p1_bytes))]) := by
  refine CtV.of (by decide) (Nat.le_of_ble_eq_true rfl) ?_
  intro p e s m below meth c A ls Q hE hP hD hS hl hQ
  obtain ⟨hx, hb, hml, hown, ht, hN, hK, hA⟩ := hE
  have hown : s.vm.findClass RX0 = some m.cls := hown
  have hl : lv_has ls 4 [(0, .ref a_this), (1, .ref a_p1)] := hl
  obtain ⟨F, hF⟩ : ∃ F, f_X0_takeCommand o_this o_this_printer o_this_reader r_this_reader_lengths r_this_reader_queue r_this_reader_record r_p1_bytes = F := ⟨_, rfl⟩
  rw [hF] at hQ
  unfold f_X0_takeCommand at hF
  refine lv_aload_n hx hb dX0_takeCommand_0 rfl (lv_at hl 0 rfl) ?_
  refine gf_X0_46 (v := .int o_this.2.2.2.2.1) hx hb hown ht hK hP 0 rfl rfl dX0_takeCommand_1 ?_
  refine lv_istore_n (lv' := [(2, .int o_this.2.2.2.2.1), (0, .ref a_this), (1, .ref a_p1)]) hx hb dX0_takeCommand_4 rfl hl (by decide) rfl (fun ls hl => ?_)
  refine lv_aload_n hx hb dX0_takeCommand_5 rfl (lv_at hl 1 rfl) ?_
  refine lv_iload_n hx hb dX0_takeCommand_6 rfl (lv_at hl 0 rfl) ?_
  refine lv_bipush (v := 8) hx hb dX0_takeCommand_7 (by decide) ?_
  refine lv_iadd hx hb dX0_takeCommand_9 ?_
  refine lv_ldc (v := 16777215) hx hb hown (ht _ ki_X0_45) dX0_takeCommand_10 ?_
  refine lv_iand hx hb dX0_takeCommand_12 ?_
  refine pf_X0_46 (x := ((o_this.2.2.2.2.1 + (8 : Int32)) &&& (16777215 : Int32))) hx hb hown ht hK hP hD hS 0 rfl (Nat.le_of_ble_eq_true rfl) dX0_takeCommand_13 (fun H locs hP hD hS => ?_)
  have hP : va_P D vwCl [(a_this, oX0 a_this_reader a_this_printer (o_this.1, o_this.2.1, o_this.2.2.1, o_this.2.2.2.1, ((o_this.2.2.2.2.1 + (8 : Int32)) &&& (16777215 : Int32)), o_this.2.2.2.2.2.1, o_this.2.2.2.2.2.2.1, o_this.2.2.2.2.2.2.2.1, o_this.2.2.2.2.2.2.2.2.1, o_this.2.2.2.2.2.2.2.2.2.1, o_this.2.2.2.2.2.2.2.2.2.2.1, o_this.2.2.2.2.2.2.2.2.2.2.2.1, o_this.2.2.2.2.2.2.2.2.2.2.2.2)), (a_this_printer, oX2 a_this_printer_line o_this_printer), (a_this_reader, oX4 a_this_reader_making a_this_reader_queue a_this_reader_lengths a_this_reader_record o_this_reader), (a_this_reader_lengths, .inl (k_this_reader_lengths, 8, .inl r_this_reader_lengths)), (a_this_reader_queue, .inl (k_this_reader_queue, 128, .inl r_this_reader_queue)), (a_this_reader_record, .inl (k_this_reader_record, 16, .inl r_this_reader_record)), (a_p1, oX6 a_p1_bytes a_p1_keys), (a_p1_bytes, .inl (k_p1_bytes, 2048, .inl r_p1_bytes))] H := hP
  have hD : va_D A [(a_this, oX0 a_this_reader a_this_printer (o_this.1, o_this.2.1, o_this.2.2.1, o_this.2.2.2.1, ((o_this.2.2.2.2.1 + (8 : Int32)) &&& (16777215 : Int32)), o_this.2.2.2.2.2.1, o_this.2.2.2.2.2.2.1, o_this.2.2.2.2.2.2.2.1, o_this.2.2.2.2.2.2.2.2.1, o_this.2.2.2.2.2.2.2.2.2.1, o_this.2.2.2.2.2.2.2.2.2.2.1, o_this.2.2.2.2.2.2.2.2.2.2.2.1, o_this.2.2.2.2.2.2.2.2.2.2.2.2)), (a_this_printer, oX2 a_this_printer_line o_this_printer), (a_this_reader, oX4 a_this_reader_making a_this_reader_queue a_this_reader_lengths a_this_reader_record o_this_reader), (a_this_reader_lengths, .inl (k_this_reader_lengths, 8, .inl r_this_reader_lengths)), (a_this_reader_queue, .inl (k_this_reader_queue, 128, .inl r_this_reader_queue)), (a_this_reader_record, .inl (k_this_reader_record, 16, .inl r_this_reader_record)), (a_p1, oX6 a_p1_bytes a_p1_keys), (a_p1_bytes, .inl (k_p1_bytes, 2048, .inl r_p1_bytes))] := hD
  refine lv_iload_n hx hb dX0_takeCommand_16 rfl (lv_at hl 0 rfl) ?_
  refine lv_bipush (v := 8) hx hb dX0_takeCommand_17 (by decide) ?_
  refine lv_irem hx hb dX0_takeCommand_19 (by decide) ?_
  refine lv_if_ne (tgt := 32) hx hb dX0_takeCommand_20 (by decide) (fun c_1 => ?_) (fun c_1 => ?_)
  · skip
    rw [if_neg c_1] at hF
    refine lv_aload_n hx hb dX0_takeCommand_32 rfl (lv_at hl 1 rfl) ?_
    refine lv_iconst (v := 0) hx hb dX0_takeCommand_33 (by decide) ?_
    refine pf_X0_72 (x := 0) hx hb hown ht hK hP hD hS 0 rfl (Nat.le_of_ble_eq_true rfl) dX0_takeCommand_34 (fun H locs hP hD hS => ?_)
    have hP : va_P D vwCl [(a_this, oX0 a_this_reader a_this_printer (o_this.1, o_this.2.1, o_this.2.2.1, o_this.2.2.2.1, ((o_this.2.2.2.2.1 + (8 : Int32)) &&& (16777215 : Int32)), o_this.2.2.2.2.2.1, o_this.2.2.2.2.2.2.1, o_this.2.2.2.2.2.2.2.1, o_this.2.2.2.2.2.2.2.2.1, o_this.2.2.2.2.2.2.2.2.2.1, 0, o_this.2.2.2.2.2.2.2.2.2.2.2.1, o_this.2.2.2.2.2.2.2.2.2.2.2.2)), (a_this_printer, oX2 a_this_printer_line o_this_printer), (a_this_reader, oX4 a_this_reader_making a_this_reader_queue a_this_reader_lengths a_this_reader_record o_this_reader), (a_this_reader_lengths, .inl (k_this_reader_lengths, 8, .inl r_this_reader_lengths)), (a_this_reader_queue, .inl (k_this_reader_queue, 128, .inl r_this_reader_queue)), (a_this_reader_record, .inl (k_this_reader_record, 16, .inl r_this_reader_record)), (a_p1, oX6 a_p1_bytes a_p1_keys), (a_p1_bytes, .inl (k_p1_bytes, 2048, .inl r_p1_bytes))] H := hP
    have hD : va_D A [(a_this, oX0 a_this_reader a_this_printer (o_this.1, o_this.2.1, o_this.2.2.1, o_this.2.2.2.1, ((o_this.2.2.2.2.1 + (8 : Int32)) &&& (16777215 : Int32)), o_this.2.2.2.2.2.1, o_this.2.2.2.2.2.2.1, o_this.2.2.2.2.2.2.2.1, o_this.2.2.2.2.2.2.2.2.1, o_this.2.2.2.2.2.2.2.2.2.1, 0, o_this.2.2.2.2.2.2.2.2.2.2.2.1, o_this.2.2.2.2.2.2.2.2.2.2.2.2)), (a_this_printer, oX2 a_this_printer_line o_this_printer), (a_this_reader, oX4 a_this_reader_making a_this_reader_queue a_this_reader_lengths a_this_reader_record o_this_reader), (a_this_reader_lengths, .inl (k_this_reader_lengths, 8, .inl r_this_reader_lengths)), (a_this_reader_queue, .inl (k_this_reader_queue, 128, .inl r_this_reader_queue)), (a_this_reader_record, .inl (k_this_reader_record, 16, .inl r_this_reader_record)), (a_p1, oX6 a_p1_bytes a_p1_keys), (a_p1_bytes, .inl (k_p1_bytes, 2048, .inl r_p1_bytes))] := hD
    refine lv_aload_n hx hb dX0_takeCommand_37 rfl (lv_at hl 1 rfl) ?_
    refine lv_iconst (v := 0) hx hb dX0_takeCommand_38 (by decide) ?_
    refine lv_bipush (v := 32) hx hb dX0_takeCommand_39 (by decide) ?_
    refine q_Vv (rest := []) (c_X0_end l D a_this a_this_reader a_this_printer (o_this.1, o_this.2.1, o_this.2.2.1, o_this.2.2.2.1, ((o_this.2.2.2.2.1 + (8 : Int32)) &&& (16777215 : Int32)), o_this.2.2.2.2.2.1, o_this.2.2.2.2.2.2.1, o_this.2.2.2.2.2.2.2.1, o_this.2.2.2.2.2.2.2.2.1, o_this.2.2.2.2.2.2.2.2.2.1, 0, o_this.2.2.2.2.2.2.2.2.2.2.2.1, o_this.2.2.2.2.2.2.2.2.2.2.2.2) 0 32) cv_X0_end hx hb hml hown ht hN hK hA hP hD hS hl.1 (km_X0_75) ⟨Nat.le_of_ble_eq_true rfl, Nat.le_of_ble_eq_true rfl⟩ rfl rfl [0] (by decide) rfl [] rfl (fun _ => rfl) (ci := 0) rfl rfl rfl rfl rfl (Nat.le_of_ble_eq_true rfl) dX0_takeCommand_41 ⟨Nat.zero_le _, Nat.zero_le _⟩ (fun u H locs hw hP hD hS => ?_)
    obtain ⟨o_this_2, rfl⟩ : ∃ z, z = u := ⟨_, rfl⟩
    have hP : va_P D vwCl [(a_this, oX0 a_this_reader a_this_printer o_this_2), (a_this_printer, oX2 a_this_printer_line o_this_printer), (a_this_reader, oX4 a_this_reader_making a_this_reader_queue a_this_reader_lengths a_this_reader_record o_this_reader), (a_this_reader_lengths, .inl (k_this_reader_lengths, 8, .inl r_this_reader_lengths)), (a_this_reader_queue, .inl (k_this_reader_queue, 128, .inl r_this_reader_queue)), (a_this_reader_record, .inl (k_this_reader_record, 16, .inl r_this_reader_record)), (a_p1, oX6 a_p1_bytes a_p1_keys), (a_p1_bytes, .inl (k_p1_bytes, 2048, .inl r_p1_bytes))] H := hP
    have hD : va_D A [(a_this, oX0 a_this_reader a_this_printer o_this_2), (a_this_printer, oX2 a_this_printer_line o_this_printer), (a_this_reader, oX4 a_this_reader_making a_this_reader_queue a_this_reader_lengths a_this_reader_record o_this_reader), (a_this_reader_lengths, .inl (k_this_reader_lengths, 8, .inl r_this_reader_lengths)), (a_this_reader_queue, .inl (k_this_reader_queue, 128, .inl r_this_reader_queue)), (a_this_reader_record, .inl (k_this_reader_record, 16, .inl r_this_reader_record)), (a_p1, oX6 a_p1_bytes a_p1_keys), (a_p1_bytes, .inl (k_p1_bytes, 2048, .inl r_p1_bytes))] := hD
    rw [hw] at hF
    try dsimp only at hF
    exact hQ (o_this_2, o_this_printer, o_this_reader, r_this_reader_record) _ _ _ _ dX0_takeCommand_44 hF.symm hP hD hS
  · skip
    rw [if_pos c_1] at hF
    refine lv_iload_n hx hb dX0_takeCommand_23 rfl (lv_at hl 0 rfl) ?_
    refine lv_bipush (v := 8) hx hb dX0_takeCommand_24 (by decide) ?_
    refine q_Si (rest := []) (c_X6_holds l D o_this.2.2.2.2.1 8) cv_X6_holds hx hb hml hown ht hN hK hA hP hD hS hl.1 (km_X0_68) ⟨Nat.le_of_ble_eq_true rfl, Nat.le_of_ble_eq_true rfl⟩ rfl rfl [] (by decide) rfl [] rfl (fun _ => rfl) rfl rfl (Nat.le_of_ble_eq_true rfl) dX0_takeCommand_26 ⟨Nat.zero_le _, Nat.zero_le _⟩ (fun r u H locs hw hP hD hS => ?_)
    obtain ⟨rfl, rfl⟩ := hw
    have hP : va_P D vwCl [(a_this, oX0 a_this_reader a_this_printer (o_this.1, o_this.2.1, o_this.2.2.1, o_this.2.2.2.1, ((o_this.2.2.2.2.1 + (8 : Int32)) &&& (16777215 : Int32)), o_this.2.2.2.2.2.1, o_this.2.2.2.2.2.2.1, o_this.2.2.2.2.2.2.2.1, o_this.2.2.2.2.2.2.2.2.1, o_this.2.2.2.2.2.2.2.2.2.1, o_this.2.2.2.2.2.2.2.2.2.2.1, o_this.2.2.2.2.2.2.2.2.2.2.2.1, o_this.2.2.2.2.2.2.2.2.2.2.2.2)), (a_this_printer, oX2 a_this_printer_line o_this_printer), (a_this_reader, oX4 a_this_reader_making a_this_reader_queue a_this_reader_lengths a_this_reader_record o_this_reader), (a_this_reader_lengths, .inl (k_this_reader_lengths, 8, .inl r_this_reader_lengths)), (a_this_reader_queue, .inl (k_this_reader_queue, 128, .inl r_this_reader_queue)), (a_this_reader_record, .inl (k_this_reader_record, 16, .inl r_this_reader_record)), (a_p1, oX6 a_p1_bytes a_p1_keys), (a_p1_bytes, .inl (k_p1_bytes, 2048, .inl r_p1_bytes))] H := hP
    have hD : va_D A [(a_this, oX0 a_this_reader a_this_printer (o_this.1, o_this.2.1, o_this.2.2.1, o_this.2.2.2.1, ((o_this.2.2.2.2.1 + (8 : Int32)) &&& (16777215 : Int32)), o_this.2.2.2.2.2.1, o_this.2.2.2.2.2.2.1, o_this.2.2.2.2.2.2.2.1, o_this.2.2.2.2.2.2.2.2.1, o_this.2.2.2.2.2.2.2.2.2.1, o_this.2.2.2.2.2.2.2.2.2.2.1, o_this.2.2.2.2.2.2.2.2.2.2.2.1, o_this.2.2.2.2.2.2.2.2.2.2.2.2)), (a_this_printer, oX2 a_this_printer_line o_this_printer), (a_this_reader, oX4 a_this_reader_making a_this_reader_queue a_this_reader_lengths a_this_reader_record o_this_reader), (a_this_reader_lengths, .inl (k_this_reader_lengths, 8, .inl r_this_reader_lengths)), (a_this_reader_queue, .inl (k_this_reader_queue, 128, .inl r_this_reader_queue)), (a_this_reader_record, .inl (k_this_reader_record, 16, .inl r_this_reader_record)), (a_p1, oX6 a_p1_bytes a_p1_keys), (a_p1_bytes, .inl (k_p1_bytes, 2048, .inl r_p1_bytes))] := hD
    refine lv_if_ne (tgt := 45) hx hb dX0_takeCommand_29 (by decide) (fun c_4 => ?_) (fun c_4 => ?_)
    · have c_4 := (bI_ne0 _).mp c_4
      rw [if_pos c_4] at hF
      refine lv_aload_n hx hb dX0_takeCommand_45 rfl (lv_at hl 2 rfl) ?_
      refine lv_iload_n hx hb dX0_takeCommand_46 rfl (lv_at hl 0 rfl) ?_
      refine q_Vi (rest := []) (c_X6_byteAt l D a_p1 a_p1_bytes a_p1_keys k_p1_bytes r_p1_bytes o_this.2.2.2.2.1) cv_X6_byteAt hx hb hml hown ht hN hK hA hP hD hS hl.1 (km_X0_79) ⟨Nat.le_of_ble_eq_true rfl, Nat.le_of_ble_eq_true rfl⟩ rfl rfl [6, 7] (by decide) rfl [3] rfl (fun _ => rfl) (ci := 6) rfl rfl rfl rfl rfl (Nat.le_of_ble_eq_true rfl) dX0_takeCommand_47 ⟨Nat.zero_le _, Nat.zero_le _⟩ (fun r u H locs hw hP hD hS => ?_)
      obtain ⟨rfl, rfl⟩ := hw
      have hP : va_P D vwCl [(a_this, oX0 a_this_reader a_this_printer (o_this.1, o_this.2.1, o_this.2.2.1, o_this.2.2.2.1, ((o_this.2.2.2.2.1 + (8 : Int32)) &&& (16777215 : Int32)), o_this.2.2.2.2.2.1, o_this.2.2.2.2.2.2.1, o_this.2.2.2.2.2.2.2.1, o_this.2.2.2.2.2.2.2.2.1, o_this.2.2.2.2.2.2.2.2.2.1, o_this.2.2.2.2.2.2.2.2.2.2.1, o_this.2.2.2.2.2.2.2.2.2.2.2.1, o_this.2.2.2.2.2.2.2.2.2.2.2.2)), (a_this_printer, oX2 a_this_printer_line o_this_printer), (a_this_reader, oX4 a_this_reader_making a_this_reader_queue a_this_reader_lengths a_this_reader_record o_this_reader), (a_this_reader_lengths, .inl (k_this_reader_lengths, 8, .inl r_this_reader_lengths)), (a_this_reader_queue, .inl (k_this_reader_queue, 128, .inl r_this_reader_queue)), (a_this_reader_record, .inl (k_this_reader_record, 16, .inl r_this_reader_record)), (a_p1, oX6 a_p1_bytes a_p1_keys), (a_p1_bytes, .inl (k_p1_bytes, 2048, .inl r_p1_bytes))] H := hP
      have hD : va_D A [(a_this, oX0 a_this_reader a_this_printer (o_this.1, o_this.2.1, o_this.2.2.1, o_this.2.2.2.1, ((o_this.2.2.2.2.1 + (8 : Int32)) &&& (16777215 : Int32)), o_this.2.2.2.2.2.1, o_this.2.2.2.2.2.2.1, o_this.2.2.2.2.2.2.2.1, o_this.2.2.2.2.2.2.2.2.1, o_this.2.2.2.2.2.2.2.2.2.1, o_this.2.2.2.2.2.2.2.2.2.2.1, o_this.2.2.2.2.2.2.2.2.2.2.2.1, o_this.2.2.2.2.2.2.2.2.2.2.2.2)), (a_this_printer, oX2 a_this_printer_line o_this_printer), (a_this_reader, oX4 a_this_reader_making a_this_reader_queue a_this_reader_lengths a_this_reader_record o_this_reader), (a_this_reader_lengths, .inl (k_this_reader_lengths, 8, .inl r_this_reader_lengths)), (a_this_reader_queue, .inl (k_this_reader_queue, 128, .inl r_this_reader_queue)), (a_this_reader_record, .inl (k_this_reader_record, 16, .inl r_this_reader_record)), (a_p1, oX6 a_p1_bytes a_p1_keys), (a_p1_bytes, .inl (k_p1_bytes, 2048, .inl r_p1_bytes))] := hD
      refine lv_istore_n (lv' := [(3, .int (f_X6_byteAt r_p1_bytes o_this.2.2.2.2.1)), (2, .int o_this.2.2.2.2.1), (0, .ref a_this), (1, .ref a_p1)]) hx hb dX0_takeCommand_50 rfl hl (by decide) rfl (fun ls hl => ?_)
      refine lv_aload_n hx hb dX0_takeCommand_51 rfl (lv_at hl 2 rfl) ?_
      refine lv_aload_n hx hb dX0_takeCommand_52 rfl (lv_at hl 3 rfl) ?_
      refine lv_iload_n hx hb dX0_takeCommand_53 rfl (lv_at hl 1 rfl) ?_
      refine q_Vi (rest := [.ref a_this]) (c_X6_wordAt l D a_p1 a_p1_bytes a_p1_keys k_p1_bytes r_p1_bytes o_this.2.2.2.2.1) cv_X6_wordAt hx hb hml hown ht hN hK hA hP hD hS hl.1 (km_X0_32) ⟨Nat.le_of_ble_eq_true rfl, Nat.le_of_ble_eq_true rfl⟩ rfl rfl [6, 7] (by decide) rfl [3] rfl (fun _ => rfl) (ci := 6) rfl rfl rfl rfl rfl (Nat.le_of_ble_eq_true rfl) dX0_takeCommand_54 ⟨Nat.zero_le _, Nat.zero_le _⟩ (fun r u H locs hw hP hD hS => ?_)
      obtain ⟨rfl, rfl⟩ := hw
      have hP : va_P D vwCl [(a_this, oX0 a_this_reader a_this_printer (o_this.1, o_this.2.1, o_this.2.2.1, o_this.2.2.2.1, ((o_this.2.2.2.2.1 + (8 : Int32)) &&& (16777215 : Int32)), o_this.2.2.2.2.2.1, o_this.2.2.2.2.2.2.1, o_this.2.2.2.2.2.2.2.1, o_this.2.2.2.2.2.2.2.2.1, o_this.2.2.2.2.2.2.2.2.2.1, o_this.2.2.2.2.2.2.2.2.2.2.1, o_this.2.2.2.2.2.2.2.2.2.2.2.1, o_this.2.2.2.2.2.2.2.2.2.2.2.2)), (a_this_printer, oX2 a_this_printer_line o_this_printer), (a_this_reader, oX4 a_this_reader_making a_this_reader_queue a_this_reader_lengths a_this_reader_record o_this_reader), (a_this_reader_lengths, .inl (k_this_reader_lengths, 8, .inl r_this_reader_lengths)), (a_this_reader_queue, .inl (k_this_reader_queue, 128, .inl r_this_reader_queue)), (a_this_reader_record, .inl (k_this_reader_record, 16, .inl r_this_reader_record)), (a_p1, oX6 a_p1_bytes a_p1_keys), (a_p1_bytes, .inl (k_p1_bytes, 2048, .inl r_p1_bytes))] H := hP
      have hD : va_D A [(a_this, oX0 a_this_reader a_this_printer (o_this.1, o_this.2.1, o_this.2.2.1, o_this.2.2.2.1, ((o_this.2.2.2.2.1 + (8 : Int32)) &&& (16777215 : Int32)), o_this.2.2.2.2.2.1, o_this.2.2.2.2.2.2.1, o_this.2.2.2.2.2.2.2.1, o_this.2.2.2.2.2.2.2.2.1, o_this.2.2.2.2.2.2.2.2.2.1, o_this.2.2.2.2.2.2.2.2.2.2.1, o_this.2.2.2.2.2.2.2.2.2.2.2.1, o_this.2.2.2.2.2.2.2.2.2.2.2.2)), (a_this_printer, oX2 a_this_printer_line o_this_printer), (a_this_reader, oX4 a_this_reader_making a_this_reader_queue a_this_reader_lengths a_this_reader_record o_this_reader), (a_this_reader_lengths, .inl (k_this_reader_lengths, 8, .inl r_this_reader_lengths)), (a_this_reader_queue, .inl (k_this_reader_queue, 128, .inl r_this_reader_queue)), (a_this_reader_record, .inl (k_this_reader_record, 16, .inl r_this_reader_record)), (a_p1, oX6 a_p1_bytes a_p1_keys), (a_p1_bytes, .inl (k_p1_bytes, 2048, .inl r_p1_bytes))] := hD
      refine lv_ldc (v := 16777215) hx hb hown (ht _ ki_X0_45) dX0_takeCommand_57 ?_
      refine lv_iand hx hb dX0_takeCommand_59 ?_
      refine pf_X0_82 (x := ((f_X6_wordAt r_p1_bytes o_this.2.2.2.2.1) &&& (16777215 : Int32))) hx hb hown ht hK hP hD hS 0 rfl (Nat.le_of_ble_eq_true rfl) dX0_takeCommand_60 (fun H locs hP hD hS => ?_)
      have hP : va_P D vwCl [(a_this, oX0 a_this_reader a_this_printer (o_this.1, o_this.2.1, o_this.2.2.1, o_this.2.2.2.1, ((o_this.2.2.2.2.1 + (8 : Int32)) &&& (16777215 : Int32)), o_this.2.2.2.2.2.1, o_this.2.2.2.2.2.2.1, o_this.2.2.2.2.2.2.2.1, ((f_X6_wordAt r_p1_bytes o_this.2.2.2.2.1) &&& (16777215 : Int32)), o_this.2.2.2.2.2.2.2.2.2.1, o_this.2.2.2.2.2.2.2.2.2.2.1, o_this.2.2.2.2.2.2.2.2.2.2.2.1, o_this.2.2.2.2.2.2.2.2.2.2.2.2)), (a_this_printer, oX2 a_this_printer_line o_this_printer), (a_this_reader, oX4 a_this_reader_making a_this_reader_queue a_this_reader_lengths a_this_reader_record o_this_reader), (a_this_reader_lengths, .inl (k_this_reader_lengths, 8, .inl r_this_reader_lengths)), (a_this_reader_queue, .inl (k_this_reader_queue, 128, .inl r_this_reader_queue)), (a_this_reader_record, .inl (k_this_reader_record, 16, .inl r_this_reader_record)), (a_p1, oX6 a_p1_bytes a_p1_keys), (a_p1_bytes, .inl (k_p1_bytes, 2048, .inl r_p1_bytes))] H := hP
      have hD : va_D A [(a_this, oX0 a_this_reader a_this_printer (o_this.1, o_this.2.1, o_this.2.2.1, o_this.2.2.2.1, ((o_this.2.2.2.2.1 + (8 : Int32)) &&& (16777215 : Int32)), o_this.2.2.2.2.2.1, o_this.2.2.2.2.2.2.1, o_this.2.2.2.2.2.2.2.1, ((f_X6_wordAt r_p1_bytes o_this.2.2.2.2.1) &&& (16777215 : Int32)), o_this.2.2.2.2.2.2.2.2.2.1, o_this.2.2.2.2.2.2.2.2.2.2.1, o_this.2.2.2.2.2.2.2.2.2.2.2.1, o_this.2.2.2.2.2.2.2.2.2.2.2.2)), (a_this_printer, oX2 a_this_printer_line o_this_printer), (a_this_reader, oX4 a_this_reader_making a_this_reader_queue a_this_reader_lengths a_this_reader_record o_this_reader), (a_this_reader_lengths, .inl (k_this_reader_lengths, 8, .inl r_this_reader_lengths)), (a_this_reader_queue, .inl (k_this_reader_queue, 128, .inl r_this_reader_queue)), (a_this_reader_record, .inl (k_this_reader_record, 16, .inl r_this_reader_record)), (a_p1, oX6 a_p1_bytes a_p1_keys), (a_p1_bytes, .inl (k_p1_bytes, 2048, .inl r_p1_bytes))] := hD
      refine lv_aload_n hx hb dX0_takeCommand_63 rfl (lv_at hl 2 rfl) ?_
      refine lv_aload_n hx hb dX0_takeCommand_64 rfl (lv_at hl 3 rfl) ?_
      refine lv_iload_n hx hb dX0_takeCommand_65 rfl (lv_at hl 1 rfl) ?_
      refine lv_iconst (v := 4) hx hb dX0_takeCommand_66 (by decide) ?_
      refine lv_iadd hx hb dX0_takeCommand_67 ?_
      refine q_Vi (rest := [.ref a_this]) (c_X6_byteAt l D a_p1 a_p1_bytes a_p1_keys k_p1_bytes r_p1_bytes (o_this.2.2.2.2.1 + (4 : Int32))) cv_X6_byteAt hx hb hml hown ht hN hK hA hP hD hS hl.1 (km_X0_79) ⟨Nat.le_of_ble_eq_true rfl, Nat.le_of_ble_eq_true rfl⟩ rfl rfl [6, 7] (by decide) rfl [3] rfl (fun _ => rfl) (ci := 6) rfl rfl rfl rfl rfl (Nat.le_of_ble_eq_true rfl) dX0_takeCommand_68 ⟨Nat.zero_le _, Nat.zero_le _⟩ (fun r u H locs hw hP hD hS => ?_)
      obtain ⟨rfl, rfl⟩ := hw
      have hP : va_P D vwCl [(a_this, oX0 a_this_reader a_this_printer (o_this.1, o_this.2.1, o_this.2.2.1, o_this.2.2.2.1, ((o_this.2.2.2.2.1 + (8 : Int32)) &&& (16777215 : Int32)), o_this.2.2.2.2.2.1, o_this.2.2.2.2.2.2.1, o_this.2.2.2.2.2.2.2.1, ((f_X6_wordAt r_p1_bytes o_this.2.2.2.2.1) &&& (16777215 : Int32)), o_this.2.2.2.2.2.2.2.2.2.1, o_this.2.2.2.2.2.2.2.2.2.2.1, o_this.2.2.2.2.2.2.2.2.2.2.2.1, o_this.2.2.2.2.2.2.2.2.2.2.2.2)), (a_this_printer, oX2 a_this_printer_line o_this_printer), (a_this_reader, oX4 a_this_reader_making a_this_reader_queue a_this_reader_lengths a_this_reader_record o_this_reader), (a_this_reader_lengths, .inl (k_this_reader_lengths, 8, .inl r_this_reader_lengths)), (a_this_reader_queue, .inl (k_this_reader_queue, 128, .inl r_this_reader_queue)), (a_this_reader_record, .inl (k_this_reader_record, 16, .inl r_this_reader_record)), (a_p1, oX6 a_p1_bytes a_p1_keys), (a_p1_bytes, .inl (k_p1_bytes, 2048, .inl r_p1_bytes))] H := hP
      have hD : va_D A [(a_this, oX0 a_this_reader a_this_printer (o_this.1, o_this.2.1, o_this.2.2.1, o_this.2.2.2.1, ((o_this.2.2.2.2.1 + (8 : Int32)) &&& (16777215 : Int32)), o_this.2.2.2.2.2.1, o_this.2.2.2.2.2.2.1, o_this.2.2.2.2.2.2.2.1, ((f_X6_wordAt r_p1_bytes o_this.2.2.2.2.1) &&& (16777215 : Int32)), o_this.2.2.2.2.2.2.2.2.2.1, o_this.2.2.2.2.2.2.2.2.2.2.1, o_this.2.2.2.2.2.2.2.2.2.2.2.1, o_this.2.2.2.2.2.2.2.2.2.2.2.2)), (a_this_printer, oX2 a_this_printer_line o_this_printer), (a_this_reader, oX4 a_this_reader_making a_this_reader_queue a_this_reader_lengths a_this_reader_record o_this_reader), (a_this_reader_lengths, .inl (k_this_reader_lengths, 8, .inl r_this_reader_lengths)), (a_this_reader_queue, .inl (k_this_reader_queue, 128, .inl r_this_reader_queue)), (a_this_reader_record, .inl (k_this_reader_record, 16, .inl r_this_reader_record)), (a_p1, oX6 a_p1_bytes a_p1_keys), (a_p1_bytes, .inl (k_p1_bytes, 2048, .inl r_p1_bytes))] := hD
      refine pf_X0_85 (x := (f_X6_byteAt r_p1_bytes (o_this.2.2.2.2.1 + (4 : Int32)))) hx hb hown ht hK hP hD hS 0 rfl (Nat.le_of_ble_eq_true rfl) dX0_takeCommand_71 (fun H locs hP hD hS => ?_)
      have hP : va_P D vwCl [(a_this, oX0 a_this_reader a_this_printer (o_this.1, o_this.2.1, o_this.2.2.1, o_this.2.2.2.1, ((o_this.2.2.2.2.1 + (8 : Int32)) &&& (16777215 : Int32)), o_this.2.2.2.2.2.1, o_this.2.2.2.2.2.2.1, o_this.2.2.2.2.2.2.2.1, ((f_X6_wordAt r_p1_bytes o_this.2.2.2.2.1) &&& (16777215 : Int32)), (f_X6_byteAt r_p1_bytes (o_this.2.2.2.2.1 + (4 : Int32))), o_this.2.2.2.2.2.2.2.2.2.2.1, o_this.2.2.2.2.2.2.2.2.2.2.2.1, o_this.2.2.2.2.2.2.2.2.2.2.2.2)), (a_this_printer, oX2 a_this_printer_line o_this_printer), (a_this_reader, oX4 a_this_reader_making a_this_reader_queue a_this_reader_lengths a_this_reader_record o_this_reader), (a_this_reader_lengths, .inl (k_this_reader_lengths, 8, .inl r_this_reader_lengths)), (a_this_reader_queue, .inl (k_this_reader_queue, 128, .inl r_this_reader_queue)), (a_this_reader_record, .inl (k_this_reader_record, 16, .inl r_this_reader_record)), (a_p1, oX6 a_p1_bytes a_p1_keys), (a_p1_bytes, .inl (k_p1_bytes, 2048, .inl r_p1_bytes))] H := hP
      have hD : va_D A [(a_this, oX0 a_this_reader a_this_printer (o_this.1, o_this.2.1, o_this.2.2.1, o_this.2.2.2.1, ((o_this.2.2.2.2.1 + (8 : Int32)) &&& (16777215 : Int32)), o_this.2.2.2.2.2.1, o_this.2.2.2.2.2.2.1, o_this.2.2.2.2.2.2.2.1, ((f_X6_wordAt r_p1_bytes o_this.2.2.2.2.1) &&& (16777215 : Int32)), (f_X6_byteAt r_p1_bytes (o_this.2.2.2.2.1 + (4 : Int32))), o_this.2.2.2.2.2.2.2.2.2.2.1, o_this.2.2.2.2.2.2.2.2.2.2.2.1, o_this.2.2.2.2.2.2.2.2.2.2.2.2)), (a_this_printer, oX2 a_this_printer_line o_this_printer), (a_this_reader, oX4 a_this_reader_making a_this_reader_queue a_this_reader_lengths a_this_reader_record o_this_reader), (a_this_reader_lengths, .inl (k_this_reader_lengths, 8, .inl r_this_reader_lengths)), (a_this_reader_queue, .inl (k_this_reader_queue, 128, .inl r_this_reader_queue)), (a_this_reader_record, .inl (k_this_reader_record, 16, .inl r_this_reader_record)), (a_p1, oX6 a_p1_bytes a_p1_keys), (a_p1_bytes, .inl (k_p1_bytes, 2048, .inl r_p1_bytes))] := hD
      refine lv_aload_n hx hb dX0_takeCommand_74 rfl (lv_at hl 2 rfl) ?_
      refine lv_aload_n hx hb dX0_takeCommand_75 rfl (lv_at hl 3 rfl) ?_
      refine lv_iload_n hx hb dX0_takeCommand_76 rfl (lv_at hl 1 rfl) ?_
      refine lv_bipush (v := 6) hx hb dX0_takeCommand_77 (by decide) ?_
      refine lv_iadd hx hb dX0_takeCommand_79 ?_
      refine q_Vi (rest := [.ref a_this]) (c_X6_halfAt l D a_p1 a_p1_bytes a_p1_keys k_p1_bytes r_p1_bytes (o_this.2.2.2.2.1 + (6 : Int32))) cv_X6_halfAt hx hb hml hown ht hN hK hA hP hD hS hl.1 (km_X0_88) ⟨Nat.le_of_ble_eq_true rfl, Nat.le_of_ble_eq_true rfl⟩ rfl rfl [6, 7] (by decide) rfl [3] rfl (fun _ => rfl) (ci := 6) rfl rfl rfl rfl rfl (Nat.le_of_ble_eq_true rfl) dX0_takeCommand_80 ⟨Nat.zero_le _, Nat.zero_le _⟩ (fun r u H locs hw hP hD hS => ?_)
      obtain ⟨rfl, rfl⟩ := hw
      have hP : va_P D vwCl [(a_this, oX0 a_this_reader a_this_printer (o_this.1, o_this.2.1, o_this.2.2.1, o_this.2.2.2.1, ((o_this.2.2.2.2.1 + (8 : Int32)) &&& (16777215 : Int32)), o_this.2.2.2.2.2.1, o_this.2.2.2.2.2.2.1, o_this.2.2.2.2.2.2.2.1, ((f_X6_wordAt r_p1_bytes o_this.2.2.2.2.1) &&& (16777215 : Int32)), (f_X6_byteAt r_p1_bytes (o_this.2.2.2.2.1 + (4 : Int32))), o_this.2.2.2.2.2.2.2.2.2.2.1, o_this.2.2.2.2.2.2.2.2.2.2.2.1, o_this.2.2.2.2.2.2.2.2.2.2.2.2)), (a_this_printer, oX2 a_this_printer_line o_this_printer), (a_this_reader, oX4 a_this_reader_making a_this_reader_queue a_this_reader_lengths a_this_reader_record o_this_reader), (a_this_reader_lengths, .inl (k_this_reader_lengths, 8, .inl r_this_reader_lengths)), (a_this_reader_queue, .inl (k_this_reader_queue, 128, .inl r_this_reader_queue)), (a_this_reader_record, .inl (k_this_reader_record, 16, .inl r_this_reader_record)), (a_p1, oX6 a_p1_bytes a_p1_keys), (a_p1_bytes, .inl (k_p1_bytes, 2048, .inl r_p1_bytes))] H := hP
      have hD : va_D A [(a_this, oX0 a_this_reader a_this_printer (o_this.1, o_this.2.1, o_this.2.2.1, o_this.2.2.2.1, ((o_this.2.2.2.2.1 + (8 : Int32)) &&& (16777215 : Int32)), o_this.2.2.2.2.2.1, o_this.2.2.2.2.2.2.1, o_this.2.2.2.2.2.2.2.1, ((f_X6_wordAt r_p1_bytes o_this.2.2.2.2.1) &&& (16777215 : Int32)), (f_X6_byteAt r_p1_bytes (o_this.2.2.2.2.1 + (4 : Int32))), o_this.2.2.2.2.2.2.2.2.2.2.1, o_this.2.2.2.2.2.2.2.2.2.2.2.1, o_this.2.2.2.2.2.2.2.2.2.2.2.2)), (a_this_printer, oX2 a_this_printer_line o_this_printer), (a_this_reader, oX4 a_this_reader_making a_this_reader_queue a_this_reader_lengths a_this_reader_record o_this_reader), (a_this_reader_lengths, .inl (k_this_reader_lengths, 8, .inl r_this_reader_lengths)), (a_this_reader_queue, .inl (k_this_reader_queue, 128, .inl r_this_reader_queue)), (a_this_reader_record, .inl (k_this_reader_record, 16, .inl r_this_reader_record)), (a_p1, oX6 a_p1_bytes a_p1_keys), (a_p1_bytes, .inl (k_p1_bytes, 2048, .inl r_p1_bytes))] := hD
      refine pf_X0_72 (x := (f_X6_halfAt r_p1_bytes (o_this.2.2.2.2.1 + (6 : Int32)))) hx hb hown ht hK hP hD hS 0 rfl (Nat.le_of_ble_eq_true rfl) dX0_takeCommand_83 (fun H locs hP hD hS => ?_)
      have hP : va_P D vwCl [(a_this, oX0 a_this_reader a_this_printer (o_this.1, o_this.2.1, o_this.2.2.1, o_this.2.2.2.1, ((o_this.2.2.2.2.1 + (8 : Int32)) &&& (16777215 : Int32)), o_this.2.2.2.2.2.1, o_this.2.2.2.2.2.2.1, o_this.2.2.2.2.2.2.2.1, ((f_X6_wordAt r_p1_bytes o_this.2.2.2.2.1) &&& (16777215 : Int32)), (f_X6_byteAt r_p1_bytes (o_this.2.2.2.2.1 + (4 : Int32))), (f_X6_halfAt r_p1_bytes (o_this.2.2.2.2.1 + (6 : Int32))), o_this.2.2.2.2.2.2.2.2.2.2.2.1, o_this.2.2.2.2.2.2.2.2.2.2.2.2)), (a_this_printer, oX2 a_this_printer_line o_this_printer), (a_this_reader, oX4 a_this_reader_making a_this_reader_queue a_this_reader_lengths a_this_reader_record o_this_reader), (a_this_reader_lengths, .inl (k_this_reader_lengths, 8, .inl r_this_reader_lengths)), (a_this_reader_queue, .inl (k_this_reader_queue, 128, .inl r_this_reader_queue)), (a_this_reader_record, .inl (k_this_reader_record, 16, .inl r_this_reader_record)), (a_p1, oX6 a_p1_bytes a_p1_keys), (a_p1_bytes, .inl (k_p1_bytes, 2048, .inl r_p1_bytes))] H := hP
      have hD : va_D A [(a_this, oX0 a_this_reader a_this_printer (o_this.1, o_this.2.1, o_this.2.2.1, o_this.2.2.2.1, ((o_this.2.2.2.2.1 + (8 : Int32)) &&& (16777215 : Int32)), o_this.2.2.2.2.2.1, o_this.2.2.2.2.2.2.1, o_this.2.2.2.2.2.2.2.1, ((f_X6_wordAt r_p1_bytes o_this.2.2.2.2.1) &&& (16777215 : Int32)), (f_X6_byteAt r_p1_bytes (o_this.2.2.2.2.1 + (4 : Int32))), (f_X6_halfAt r_p1_bytes (o_this.2.2.2.2.1 + (6 : Int32))), o_this.2.2.2.2.2.2.2.2.2.2.2.1, o_this.2.2.2.2.2.2.2.2.2.2.2.2)), (a_this_printer, oX2 a_this_printer_line o_this_printer), (a_this_reader, oX4 a_this_reader_making a_this_reader_queue a_this_reader_lengths a_this_reader_record o_this_reader), (a_this_reader_lengths, .inl (k_this_reader_lengths, 8, .inl r_this_reader_lengths)), (a_this_reader_queue, .inl (k_this_reader_queue, 128, .inl r_this_reader_queue)), (a_this_reader_record, .inl (k_this_reader_record, 16, .inl r_this_reader_record)), (a_p1, oX6 a_p1_bytes a_p1_keys), (a_p1_bytes, .inl (k_p1_bytes, 2048, .inl r_p1_bytes))] := hD
      refine lv_aload_n hx hb dX0_takeCommand_86 rfl (lv_at hl 2 rfl) ?_
      refine lv_iload_n hx hb dX0_takeCommand_87 rfl (lv_at hl 0 rfl) ?_
      refine q_Vi (rest := []) (c_X0_isTakeable l D a_this a_this_reader a_this_printer (o_this.1, o_this.2.1, o_this.2.2.1, o_this.2.2.2.1, ((o_this.2.2.2.2.1 + (8 : Int32)) &&& (16777215 : Int32)), o_this.2.2.2.2.2.1, o_this.2.2.2.2.2.2.1, o_this.2.2.2.2.2.2.2.1, ((f_X6_wordAt r_p1_bytes o_this.2.2.2.2.1) &&& (16777215 : Int32)), (f_X6_byteAt r_p1_bytes (o_this.2.2.2.2.1 + (4 : Int32))), (f_X6_halfAt r_p1_bytes (o_this.2.2.2.2.1 + (6 : Int32))), o_this.2.2.2.2.2.2.2.2.2.2.2.1, o_this.2.2.2.2.2.2.2.2.2.2.2.2) (f_X6_byteAt r_p1_bytes o_this.2.2.2.2.1)) cv_X0_isTakeable hx hb hml hown ht hN hK hA hP hD hS hl.1 (km_X0_91) ⟨Nat.le_of_ble_eq_true rfl, Nat.le_of_ble_eq_true rfl⟩ rfl rfl [0] (by decide) rfl [] rfl (fun _ => rfl) (ci := 0) rfl rfl rfl rfl rfl (Nat.le_of_ble_eq_true rfl) dX0_takeCommand_88 ⟨Nat.zero_le _, Nat.zero_le _⟩ (fun r u H locs hw hP hD hS => ?_)
      obtain ⟨rfl, rfl⟩ := hw
      have hP : va_P D vwCl [(a_this, oX0 a_this_reader a_this_printer (o_this.1, o_this.2.1, o_this.2.2.1, o_this.2.2.2.1, ((o_this.2.2.2.2.1 + (8 : Int32)) &&& (16777215 : Int32)), o_this.2.2.2.2.2.1, o_this.2.2.2.2.2.2.1, o_this.2.2.2.2.2.2.2.1, ((f_X6_wordAt r_p1_bytes o_this.2.2.2.2.1) &&& (16777215 : Int32)), (f_X6_byteAt r_p1_bytes (o_this.2.2.2.2.1 + (4 : Int32))), (f_X6_halfAt r_p1_bytes (o_this.2.2.2.2.1 + (6 : Int32))), o_this.2.2.2.2.2.2.2.2.2.2.2.1, o_this.2.2.2.2.2.2.2.2.2.2.2.2)), (a_this_printer, oX2 a_this_printer_line o_this_printer), (a_this_reader, oX4 a_this_reader_making a_this_reader_queue a_this_reader_lengths a_this_reader_record o_this_reader), (a_this_reader_lengths, .inl (k_this_reader_lengths, 8, .inl r_this_reader_lengths)), (a_this_reader_queue, .inl (k_this_reader_queue, 128, .inl r_this_reader_queue)), (a_this_reader_record, .inl (k_this_reader_record, 16, .inl r_this_reader_record)), (a_p1, oX6 a_p1_bytes a_p1_keys), (a_p1_bytes, .inl (k_p1_bytes, 2048, .inl r_p1_bytes))] H := hP
      have hD : va_D A [(a_this, oX0 a_this_reader a_this_printer (o_this.1, o_this.2.1, o_this.2.2.1, o_this.2.2.2.1, ((o_this.2.2.2.2.1 + (8 : Int32)) &&& (16777215 : Int32)), o_this.2.2.2.2.2.1, o_this.2.2.2.2.2.2.1, o_this.2.2.2.2.2.2.2.1, ((f_X6_wordAt r_p1_bytes o_this.2.2.2.2.1) &&& (16777215 : Int32)), (f_X6_byteAt r_p1_bytes (o_this.2.2.2.2.1 + (4 : Int32))), (f_X6_halfAt r_p1_bytes (o_this.2.2.2.2.1 + (6 : Int32))), o_this.2.2.2.2.2.2.2.2.2.2.2.1, o_this.2.2.2.2.2.2.2.2.2.2.2.2)), (a_this_printer, oX2 a_this_printer_line o_this_printer), (a_this_reader, oX4 a_this_reader_making a_this_reader_queue a_this_reader_lengths a_this_reader_record o_this_reader), (a_this_reader_lengths, .inl (k_this_reader_lengths, 8, .inl r_this_reader_lengths)), (a_this_reader_queue, .inl (k_this_reader_queue, 128, .inl r_this_reader_queue)), (a_this_reader_record, .inl (k_this_reader_record, 16, .inl r_this_reader_record)), (a_p1, oX6 a_p1_bytes a_p1_keys), (a_p1_bytes, .inl (k_p1_bytes, 2048, .inl r_p1_bytes))] := hD
      refine lv_if_ne (tgt := 104) hx hb dX0_takeCommand_91 (by decide) (fun c_10 => ?_) (fun c_10 => ?_)
      · have c_10 := (bI_ne0 _).mp c_10
        rw [if_pos c_10] at hF
        refine lv_iload_n hx hb dX0_takeCommand_104 rfl (lv_at hl 0 rfl) ?_
        refine lv_bipush (v := 8) hx hb dX0_takeCommand_105 (by decide) ?_
        refine lv_icmp_ne (tgt := 126) hx hb dX0_takeCommand_107 (by decide) (fun c_11 => ?_) (fun c_11 => ?_)
        · skip
          rw [if_neg c_11] at hF
          refine lv_aload_n hx hb dX0_takeCommand_126 rfl (lv_at hl 2 rfl) ?_
          refine lv_iconst (v := 0) hx hb dX0_takeCommand_127 (by decide) ?_
          refine pf_X0_55 (x := false) hx hb hown ht hK hP hD hS 0 rfl (Nat.le_of_ble_eq_true rfl) dX0_takeCommand_128 (fun H locs hP hD hS => ?_)
          have hP : va_P D vwCl [(a_this, oX0 a_this_reader a_this_printer (o_this.1, o_this.2.1, o_this.2.2.1, o_this.2.2.2.1, ((o_this.2.2.2.2.1 + (8 : Int32)) &&& (16777215 : Int32)), o_this.2.2.2.2.2.1, o_this.2.2.2.2.2.2.1, false, ((f_X6_wordAt r_p1_bytes o_this.2.2.2.2.1) &&& (16777215 : Int32)), (f_X6_byteAt r_p1_bytes (o_this.2.2.2.2.1 + (4 : Int32))), (f_X6_halfAt r_p1_bytes (o_this.2.2.2.2.1 + (6 : Int32))), o_this.2.2.2.2.2.2.2.2.2.2.2.1, o_this.2.2.2.2.2.2.2.2.2.2.2.2)), (a_this_printer, oX2 a_this_printer_line o_this_printer), (a_this_reader, oX4 a_this_reader_making a_this_reader_queue a_this_reader_lengths a_this_reader_record o_this_reader), (a_this_reader_lengths, .inl (k_this_reader_lengths, 8, .inl r_this_reader_lengths)), (a_this_reader_queue, .inl (k_this_reader_queue, 128, .inl r_this_reader_queue)), (a_this_reader_record, .inl (k_this_reader_record, 16, .inl r_this_reader_record)), (a_p1, oX6 a_p1_bytes a_p1_keys), (a_p1_bytes, .inl (k_p1_bytes, 2048, .inl r_p1_bytes))] H := hP
          have hD : va_D A [(a_this, oX0 a_this_reader a_this_printer (o_this.1, o_this.2.1, o_this.2.2.1, o_this.2.2.2.1, ((o_this.2.2.2.2.1 + (8 : Int32)) &&& (16777215 : Int32)), o_this.2.2.2.2.2.1, o_this.2.2.2.2.2.2.1, false, ((f_X6_wordAt r_p1_bytes o_this.2.2.2.2.1) &&& (16777215 : Int32)), (f_X6_byteAt r_p1_bytes (o_this.2.2.2.2.1 + (4 : Int32))), (f_X6_halfAt r_p1_bytes (o_this.2.2.2.2.1 + (6 : Int32))), o_this.2.2.2.2.2.2.2.2.2.2.2.1, o_this.2.2.2.2.2.2.2.2.2.2.2.2)), (a_this_printer, oX2 a_this_printer_line o_this_printer), (a_this_reader, oX4 a_this_reader_making a_this_reader_queue a_this_reader_lengths a_this_reader_record o_this_reader), (a_this_reader_lengths, .inl (k_this_reader_lengths, 8, .inl r_this_reader_lengths)), (a_this_reader_queue, .inl (k_this_reader_queue, 128, .inl r_this_reader_queue)), (a_this_reader_record, .inl (k_this_reader_record, 16, .inl r_this_reader_record)), (a_p1, oX6 a_p1_bytes a_p1_keys), (a_p1_bytes, .inl (k_p1_bytes, 2048, .inl r_p1_bytes))] := hD
          refine lv_aload_n hx hb dX0_takeCommand_131 rfl (lv_at hl 2 rfl) ?_
          refine q_Vv (rest := []) (c_X0_beginCommand l D a_this a_this_printer a_this_reader a_this_reader_lengths a_this_reader_queue a_this_reader_record a_this_printer_line a_this_reader_making k_this_reader_lengths k_this_reader_queue k_this_reader_record (o_this.1, o_this.2.1, o_this.2.2.1, o_this.2.2.2.1, ((o_this.2.2.2.2.1 + (8 : Int32)) &&& (16777215 : Int32)), o_this.2.2.2.2.2.1, o_this.2.2.2.2.2.2.1, false, ((f_X6_wordAt r_p1_bytes o_this.2.2.2.2.1) &&& (16777215 : Int32)), (f_X6_byteAt r_p1_bytes (o_this.2.2.2.2.1 + (4 : Int32))), (f_X6_halfAt r_p1_bytes (o_this.2.2.2.2.1 + (6 : Int32))), o_this.2.2.2.2.2.2.2.2.2.2.2.1, o_this.2.2.2.2.2.2.2.2.2.2.2.2) o_this_printer o_this_reader r_this_reader_lengths r_this_reader_queue r_this_reader_record hfq) cv_X0_beginCommand hx hb hml hown ht hN hK hA hP hD hS hl.1 (km_X0_95) ⟨Nat.le_of_ble_eq_true rfl, Nat.le_of_ble_eq_true rfl⟩ rfl rfl [0, 1, 2, 3, 4, 5] (by decide) rfl [0, 1, 2] rfl (fun _ => rfl) (ci := 0) rfl rfl rfl rfl rfl (Nat.le_of_ble_eq_true rfl) dX0_takeCommand_132 ⟨Nat.zero_le _, Nat.zero_le _⟩ (fun u H locs hw hP hD hS => ?_)
          obtain ⟨o_this_12, o_this_printer_12, o_this_reader_12, r_this_reader_record_12⟩ := u
          have hP : va_P D vwCl [(a_this, oX0 a_this_reader a_this_printer o_this_12), (a_this_printer, oX2 a_this_printer_line o_this_printer_12), (a_this_reader, oX4 a_this_reader_making a_this_reader_queue a_this_reader_lengths a_this_reader_record o_this_reader_12), (a_this_reader_lengths, .inl (k_this_reader_lengths, 8, .inl r_this_reader_lengths)), (a_this_reader_queue, .inl (k_this_reader_queue, 128, .inl r_this_reader_queue)), (a_this_reader_record, .inl (k_this_reader_record, 16, .inl r_this_reader_record_12)), (a_p1, oX6 a_p1_bytes a_p1_keys), (a_p1_bytes, .inl (k_p1_bytes, 2048, .inl r_p1_bytes))] H := hP
          have hD : va_D A [(a_this, oX0 a_this_reader a_this_printer o_this_12), (a_this_printer, oX2 a_this_printer_line o_this_printer_12), (a_this_reader, oX4 a_this_reader_making a_this_reader_queue a_this_reader_lengths a_this_reader_record o_this_reader_12), (a_this_reader_lengths, .inl (k_this_reader_lengths, 8, .inl r_this_reader_lengths)), (a_this_reader_queue, .inl (k_this_reader_queue, 128, .inl r_this_reader_queue)), (a_this_reader_record, .inl (k_this_reader_record, 16, .inl r_this_reader_record_12)), (a_p1, oX6 a_p1_bytes a_p1_keys), (a_p1_bytes, .inl (k_p1_bytes, 2048, .inl r_p1_bytes))] := hD
          rw [hw] at hF
          try dsimp only at hF
          exact hQ (o_this_12, o_this_printer_12, o_this_reader_12, r_this_reader_record_12) _ _ _ _ dX0_takeCommand_135 hF.symm hP hD hS
        · skip
          rw [if_pos c_11] at hF
          refine lv_aload_n hx hb dX0_takeCommand_110 rfl (lv_at hl 2 rfl) ?_
          refine lv_aload_n hx hb dX0_takeCommand_111 rfl (lv_at hl 2 rfl) ?_
          refine gf_X0_82 (v := .int ((f_X6_wordAt r_p1_bytes o_this.2.2.2.2.1) &&& (16777215 : Int32))) hx hb hown ht hK hP 0 rfl rfl dX0_takeCommand_112 ?_
          refine pf_X0_46 (x := ((f_X6_wordAt r_p1_bytes o_this.2.2.2.2.1) &&& (16777215 : Int32))) hx hb hown ht hK hP hD hS 0 rfl (Nat.le_of_ble_eq_true rfl) dX0_takeCommand_115 (fun H locs hP hD hS => ?_)
          have hP : va_P D vwCl [(a_this, oX0 a_this_reader a_this_printer (o_this.1, o_this.2.1, o_this.2.2.1, o_this.2.2.2.1, ((f_X6_wordAt r_p1_bytes o_this.2.2.2.2.1) &&& (16777215 : Int32)), o_this.2.2.2.2.2.1, o_this.2.2.2.2.2.2.1, o_this.2.2.2.2.2.2.2.1, ((f_X6_wordAt r_p1_bytes o_this.2.2.2.2.1) &&& (16777215 : Int32)), (f_X6_byteAt r_p1_bytes (o_this.2.2.2.2.1 + (4 : Int32))), (f_X6_halfAt r_p1_bytes (o_this.2.2.2.2.1 + (6 : Int32))), o_this.2.2.2.2.2.2.2.2.2.2.2.1, o_this.2.2.2.2.2.2.2.2.2.2.2.2)), (a_this_printer, oX2 a_this_printer_line o_this_printer), (a_this_reader, oX4 a_this_reader_making a_this_reader_queue a_this_reader_lengths a_this_reader_record o_this_reader), (a_this_reader_lengths, .inl (k_this_reader_lengths, 8, .inl r_this_reader_lengths)), (a_this_reader_queue, .inl (k_this_reader_queue, 128, .inl r_this_reader_queue)), (a_this_reader_record, .inl (k_this_reader_record, 16, .inl r_this_reader_record)), (a_p1, oX6 a_p1_bytes a_p1_keys), (a_p1_bytes, .inl (k_p1_bytes, 2048, .inl r_p1_bytes))] H := hP
          have hD : va_D A [(a_this, oX0 a_this_reader a_this_printer (o_this.1, o_this.2.1, o_this.2.2.1, o_this.2.2.2.1, ((f_X6_wordAt r_p1_bytes o_this.2.2.2.2.1) &&& (16777215 : Int32)), o_this.2.2.2.2.2.1, o_this.2.2.2.2.2.2.1, o_this.2.2.2.2.2.2.2.1, ((f_X6_wordAt r_p1_bytes o_this.2.2.2.2.1) &&& (16777215 : Int32)), (f_X6_byteAt r_p1_bytes (o_this.2.2.2.2.1 + (4 : Int32))), (f_X6_halfAt r_p1_bytes (o_this.2.2.2.2.1 + (6 : Int32))), o_this.2.2.2.2.2.2.2.2.2.2.2.1, o_this.2.2.2.2.2.2.2.2.2.2.2.2)), (a_this_printer, oX2 a_this_printer_line o_this_printer), (a_this_reader, oX4 a_this_reader_making a_this_reader_queue a_this_reader_lengths a_this_reader_record o_this_reader), (a_this_reader_lengths, .inl (k_this_reader_lengths, 8, .inl r_this_reader_lengths)), (a_this_reader_queue, .inl (k_this_reader_queue, 128, .inl r_this_reader_queue)), (a_this_reader_record, .inl (k_this_reader_record, 16, .inl r_this_reader_record)), (a_p1, oX6 a_p1_bytes a_p1_keys), (a_p1_bytes, .inl (k_p1_bytes, 2048, .inl r_p1_bytes))] := hD
          refine lv_aload_n hx hb dX0_takeCommand_118 rfl (lv_at hl 2 rfl) ?_
          refine lv_iconst (v := 1) hx hb dX0_takeCommand_119 (by decide) ?_
          refine pf_X0_55 (x := true) hx hb hown ht hK hP hD hS 0 rfl (Nat.le_of_ble_eq_true rfl) dX0_takeCommand_120 (fun H locs hP hD hS => ?_)
          have hP : va_P D vwCl [(a_this, oX0 a_this_reader a_this_printer (o_this.1, o_this.2.1, o_this.2.2.1, o_this.2.2.2.1, ((f_X6_wordAt r_p1_bytes o_this.2.2.2.2.1) &&& (16777215 : Int32)), o_this.2.2.2.2.2.1, o_this.2.2.2.2.2.2.1, true, ((f_X6_wordAt r_p1_bytes o_this.2.2.2.2.1) &&& (16777215 : Int32)), (f_X6_byteAt r_p1_bytes (o_this.2.2.2.2.1 + (4 : Int32))), (f_X6_halfAt r_p1_bytes (o_this.2.2.2.2.1 + (6 : Int32))), o_this.2.2.2.2.2.2.2.2.2.2.2.1, o_this.2.2.2.2.2.2.2.2.2.2.2.2)), (a_this_printer, oX2 a_this_printer_line o_this_printer), (a_this_reader, oX4 a_this_reader_making a_this_reader_queue a_this_reader_lengths a_this_reader_record o_this_reader), (a_this_reader_lengths, .inl (k_this_reader_lengths, 8, .inl r_this_reader_lengths)), (a_this_reader_queue, .inl (k_this_reader_queue, 128, .inl r_this_reader_queue)), (a_this_reader_record, .inl (k_this_reader_record, 16, .inl r_this_reader_record)), (a_p1, oX6 a_p1_bytes a_p1_keys), (a_p1_bytes, .inl (k_p1_bytes, 2048, .inl r_p1_bytes))] H := hP
          have hD : va_D A [(a_this, oX0 a_this_reader a_this_printer (o_this.1, o_this.2.1, o_this.2.2.1, o_this.2.2.2.1, ((f_X6_wordAt r_p1_bytes o_this.2.2.2.2.1) &&& (16777215 : Int32)), o_this.2.2.2.2.2.1, o_this.2.2.2.2.2.2.1, true, ((f_X6_wordAt r_p1_bytes o_this.2.2.2.2.1) &&& (16777215 : Int32)), (f_X6_byteAt r_p1_bytes (o_this.2.2.2.2.1 + (4 : Int32))), (f_X6_halfAt r_p1_bytes (o_this.2.2.2.2.1 + (6 : Int32))), o_this.2.2.2.2.2.2.2.2.2.2.2.1, o_this.2.2.2.2.2.2.2.2.2.2.2.2)), (a_this_printer, oX2 a_this_printer_line o_this_printer), (a_this_reader, oX4 a_this_reader_making a_this_reader_queue a_this_reader_lengths a_this_reader_record o_this_reader), (a_this_reader_lengths, .inl (k_this_reader_lengths, 8, .inl r_this_reader_lengths)), (a_this_reader_queue, .inl (k_this_reader_queue, 128, .inl r_this_reader_queue)), (a_this_reader_record, .inl (k_this_reader_record, 16, .inl r_this_reader_record)), (a_p1, oX6 a_p1_bytes a_p1_keys), (a_p1_bytes, .inl (k_p1_bytes, 2048, .inl r_p1_bytes))] := hD
          refine lv_goto (tgt := 135) hx hb dX0_takeCommand_123 (by decide) ?_
          exact hQ ((o_this.1, o_this.2.1, o_this.2.2.1, o_this.2.2.2.1, ((f_X6_wordAt r_p1_bytes o_this.2.2.2.2.1) &&& (16777215 : Int32)), o_this.2.2.2.2.2.1, o_this.2.2.2.2.2.2.1, true, ((f_X6_wordAt r_p1_bytes o_this.2.2.2.2.1) &&& (16777215 : Int32)), (f_X6_byteAt r_p1_bytes (o_this.2.2.2.2.1 + (4 : Int32))), (f_X6_halfAt r_p1_bytes (o_this.2.2.2.2.1 + (6 : Int32))), o_this.2.2.2.2.2.2.2.2.2.2.2.1, o_this.2.2.2.2.2.2.2.2.2.2.2.2), o_this_printer, o_this_reader, r_this_reader_record) _ _ _ _ dX0_takeCommand_135 hF.symm hP hD hS
      · have c_10 : ¬ (f_X0_isTakeable (o_this.1, o_this.2.1, o_this.2.2.1, o_this.2.2.2.1, ((o_this.2.2.2.2.1 + (8 : Int32)) &&& (16777215 : Int32)), o_this.2.2.2.2.2.1, o_this.2.2.2.2.2.2.1, o_this.2.2.2.2.2.2.2.1, ((f_X6_wordAt r_p1_bytes o_this.2.2.2.2.1) &&& (16777215 : Int32)), (f_X6_byteAt r_p1_bytes (o_this.2.2.2.2.1 + (4 : Int32))), (f_X6_halfAt r_p1_bytes (o_this.2.2.2.2.1 + (6 : Int32))), o_this.2.2.2.2.2.2.2.2.2.2.2.1, o_this.2.2.2.2.2.2.2.2.2.2.2.2) (f_X6_byteAt r_p1_bytes o_this.2.2.2.2.1)) = true := by rw [(bI_eq0 _).mp c_10]; decide
        rw [if_neg c_10] at hF
        refine lv_aload_n hx hb dX0_takeCommand_94 rfl (lv_at hl 2 rfl) ?_
        refine lv_iconst (v := 0) hx hb dX0_takeCommand_95 (by decide) ?_
        refine lv_bipush (v := 32) hx hb dX0_takeCommand_96 (by decide) ?_
        refine q_Vv (rest := []) (c_X0_end l D a_this a_this_reader a_this_printer (o_this.1, o_this.2.1, o_this.2.2.1, o_this.2.2.2.1, ((o_this.2.2.2.2.1 + (8 : Int32)) &&& (16777215 : Int32)), o_this.2.2.2.2.2.1, o_this.2.2.2.2.2.2.1, o_this.2.2.2.2.2.2.2.1, ((f_X6_wordAt r_p1_bytes o_this.2.2.2.2.1) &&& (16777215 : Int32)), (f_X6_byteAt r_p1_bytes (o_this.2.2.2.2.1 + (4 : Int32))), (f_X6_halfAt r_p1_bytes (o_this.2.2.2.2.1 + (6 : Int32))), o_this.2.2.2.2.2.2.2.2.2.2.2.1, o_this.2.2.2.2.2.2.2.2.2.2.2.2) 0 32) cv_X0_end hx hb hml hown ht hN hK hA hP hD hS hl.1 (km_X0_75) ⟨Nat.le_of_ble_eq_true rfl, Nat.le_of_ble_eq_true rfl⟩ rfl rfl [0] (by decide) rfl [] rfl (fun _ => rfl) (ci := 0) rfl rfl rfl rfl rfl (Nat.le_of_ble_eq_true rfl) dX0_takeCommand_98 ⟨Nat.zero_le _, Nat.zero_le _⟩ (fun u H locs hw hP hD hS => ?_)
        obtain ⟨o_this_13, rfl⟩ : ∃ z, z = u := ⟨_, rfl⟩
        have hP : va_P D vwCl [(a_this, oX0 a_this_reader a_this_printer o_this_13), (a_this_printer, oX2 a_this_printer_line o_this_printer), (a_this_reader, oX4 a_this_reader_making a_this_reader_queue a_this_reader_lengths a_this_reader_record o_this_reader), (a_this_reader_lengths, .inl (k_this_reader_lengths, 8, .inl r_this_reader_lengths)), (a_this_reader_queue, .inl (k_this_reader_queue, 128, .inl r_this_reader_queue)), (a_this_reader_record, .inl (k_this_reader_record, 16, .inl r_this_reader_record)), (a_p1, oX6 a_p1_bytes a_p1_keys), (a_p1_bytes, .inl (k_p1_bytes, 2048, .inl r_p1_bytes))] H := hP
        have hD : va_D A [(a_this, oX0 a_this_reader a_this_printer o_this_13), (a_this_printer, oX2 a_this_printer_line o_this_printer), (a_this_reader, oX4 a_this_reader_making a_this_reader_queue a_this_reader_lengths a_this_reader_record o_this_reader), (a_this_reader_lengths, .inl (k_this_reader_lengths, 8, .inl r_this_reader_lengths)), (a_this_reader_queue, .inl (k_this_reader_queue, 128, .inl r_this_reader_queue)), (a_this_reader_record, .inl (k_this_reader_record, 16, .inl r_this_reader_record)), (a_p1, oX6 a_p1_bytes a_p1_keys), (a_p1_bytes, .inl (k_p1_bytes, 2048, .inl r_p1_bytes))] := hD
        rw [hw] at hF
        try dsimp only at hF
        refine lv_goto (tgt := 135) hx hb dX0_takeCommand_101 (by decide) ?_
        exact hQ (o_this_13, o_this_printer, o_this_reader, r_this_reader_record) _ _ _ _ dX0_takeCommand_135 hF.symm hP hD hS
    · have c_4 : ¬ (f_X6_holds o_this.2.2.2.2.1 8) = true := by rw [(bI_eq0 _).mp c_4]; decide
      rw [if_neg c_4] at hF
      refine lv_aload_n hx hb dX0_takeCommand_32 rfl (lv_at hl 1 rfl) ?_
      refine lv_iconst (v := 0) hx hb dX0_takeCommand_33 (by decide) ?_
      refine pf_X0_72 (x := 0) hx hb hown ht hK hP hD hS 0 rfl (Nat.le_of_ble_eq_true rfl) dX0_takeCommand_34 (fun H locs hP hD hS => ?_)
      have hP : va_P D vwCl [(a_this, oX0 a_this_reader a_this_printer (o_this.1, o_this.2.1, o_this.2.2.1, o_this.2.2.2.1, ((o_this.2.2.2.2.1 + (8 : Int32)) &&& (16777215 : Int32)), o_this.2.2.2.2.2.1, o_this.2.2.2.2.2.2.1, o_this.2.2.2.2.2.2.2.1, o_this.2.2.2.2.2.2.2.2.1, o_this.2.2.2.2.2.2.2.2.2.1, 0, o_this.2.2.2.2.2.2.2.2.2.2.2.1, o_this.2.2.2.2.2.2.2.2.2.2.2.2)), (a_this_printer, oX2 a_this_printer_line o_this_printer), (a_this_reader, oX4 a_this_reader_making a_this_reader_queue a_this_reader_lengths a_this_reader_record o_this_reader), (a_this_reader_lengths, .inl (k_this_reader_lengths, 8, .inl r_this_reader_lengths)), (a_this_reader_queue, .inl (k_this_reader_queue, 128, .inl r_this_reader_queue)), (a_this_reader_record, .inl (k_this_reader_record, 16, .inl r_this_reader_record)), (a_p1, oX6 a_p1_bytes a_p1_keys), (a_p1_bytes, .inl (k_p1_bytes, 2048, .inl r_p1_bytes))] H := hP
      have hD : va_D A [(a_this, oX0 a_this_reader a_this_printer (o_this.1, o_this.2.1, o_this.2.2.1, o_this.2.2.2.1, ((o_this.2.2.2.2.1 + (8 : Int32)) &&& (16777215 : Int32)), o_this.2.2.2.2.2.1, o_this.2.2.2.2.2.2.1, o_this.2.2.2.2.2.2.2.1, o_this.2.2.2.2.2.2.2.2.1, o_this.2.2.2.2.2.2.2.2.2.1, 0, o_this.2.2.2.2.2.2.2.2.2.2.2.1, o_this.2.2.2.2.2.2.2.2.2.2.2.2)), (a_this_printer, oX2 a_this_printer_line o_this_printer), (a_this_reader, oX4 a_this_reader_making a_this_reader_queue a_this_reader_lengths a_this_reader_record o_this_reader), (a_this_reader_lengths, .inl (k_this_reader_lengths, 8, .inl r_this_reader_lengths)), (a_this_reader_queue, .inl (k_this_reader_queue, 128, .inl r_this_reader_queue)), (a_this_reader_record, .inl (k_this_reader_record, 16, .inl r_this_reader_record)), (a_p1, oX6 a_p1_bytes a_p1_keys), (a_p1_bytes, .inl (k_p1_bytes, 2048, .inl r_p1_bytes))] := hD
      refine lv_aload_n hx hb dX0_takeCommand_37 rfl (lv_at hl 1 rfl) ?_
      refine lv_iconst (v := 0) hx hb dX0_takeCommand_38 (by decide) ?_
      refine lv_bipush (v := 32) hx hb dX0_takeCommand_39 (by decide) ?_
      refine q_Vv (rest := []) (c_X0_end l D a_this a_this_reader a_this_printer (o_this.1, o_this.2.1, o_this.2.2.1, o_this.2.2.2.1, ((o_this.2.2.2.2.1 + (8 : Int32)) &&& (16777215 : Int32)), o_this.2.2.2.2.2.1, o_this.2.2.2.2.2.2.1, o_this.2.2.2.2.2.2.2.1, o_this.2.2.2.2.2.2.2.2.1, o_this.2.2.2.2.2.2.2.2.2.1, 0, o_this.2.2.2.2.2.2.2.2.2.2.2.1, o_this.2.2.2.2.2.2.2.2.2.2.2.2) 0 32) cv_X0_end hx hb hml hown ht hN hK hA hP hD hS hl.1 (km_X0_75) ⟨Nat.le_of_ble_eq_true rfl, Nat.le_of_ble_eq_true rfl⟩ rfl rfl [0] (by decide) rfl [] rfl (fun _ => rfl) (ci := 0) rfl rfl rfl rfl rfl (Nat.le_of_ble_eq_true rfl) dX0_takeCommand_41 ⟨Nat.zero_le _, Nat.zero_le _⟩ (fun u H locs hw hP hD hS => ?_)
      obtain ⟨o_this_14, rfl⟩ : ∃ z, z = u := ⟨_, rfl⟩
      have hP : va_P D vwCl [(a_this, oX0 a_this_reader a_this_printer o_this_14), (a_this_printer, oX2 a_this_printer_line o_this_printer), (a_this_reader, oX4 a_this_reader_making a_this_reader_queue a_this_reader_lengths a_this_reader_record o_this_reader), (a_this_reader_lengths, .inl (k_this_reader_lengths, 8, .inl r_this_reader_lengths)), (a_this_reader_queue, .inl (k_this_reader_queue, 128, .inl r_this_reader_queue)), (a_this_reader_record, .inl (k_this_reader_record, 16, .inl r_this_reader_record)), (a_p1, oX6 a_p1_bytes a_p1_keys), (a_p1_bytes, .inl (k_p1_bytes, 2048, .inl r_p1_bytes))] H := hP
      have hD : va_D A [(a_this, oX0 a_this_reader a_this_printer o_this_14), (a_this_printer, oX2 a_this_printer_line o_this_printer), (a_this_reader, oX4 a_this_reader_making a_this_reader_queue a_this_reader_lengths a_this_reader_record o_this_reader), (a_this_reader_lengths, .inl (k_this_reader_lengths, 8, .inl r_this_reader_lengths)), (a_this_reader_queue, .inl (k_this_reader_queue, 128, .inl r_this_reader_queue)), (a_this_reader_record, .inl (k_this_reader_record, 16, .inl r_this_reader_record)), (a_p1, oX6 a_p1_bytes a_p1_keys), (a_p1_bytes, .inl (k_p1_bytes, 2048, .inl r_p1_bytes))] := hD
      rw [hw] at hF
      try dsimp only at hF
      exact hQ (o_this_14, o_this_printer, o_this_reader, r_this_reader_record) _ _ _ _ dX0_takeCommand_44 hF.symm hP hD hS
theorem cv_X0_takeCommand : qV yX0_takeCommand cX0_takeCommand 4 none 1 := ⟨kc_X0_takeCommand, kt_X0_takeCommand, ks_X0_takeCommand, kn_X0, by decide, by decide +kernel⟩
def f_X0_moveByte (o_this : Bool × Bool × Int32 × Int32 × Int32 × Bool × Bool × Bool × Int32 × Int32 × Int32 × Int32 × Int32) (o_this_printer : Int32 × Int32) (r_this_printer_line : Nat → Int32) (o_this_reader : Int32 × Int32 × Int32 × Int32 × Int32) (r_this_reader_record : Nat → Int32) (r_p1_bytes : Nat → Int32) (r_p1_keys : Nat → Int32) : (Bool × Bool × Int32 × Int32 × Int32 × Bool × Bool × Bool × Int32 × Int32 × Int32 × Int32 × Int32) × (Int32 × Int32) × (Nat → Int32) × (Int32 × Int32 × Int32 × Int32 × Int32) × (Nat → Int32) := (if (f_X0_isReading o_this) = true then (if (f_X0_flagged o_this 16) = true then (if (f_X6_holds o_this.2.2.2.2.2.2.2.2.1 1) = true then (if (f_X0_isReading o_this) = true then (match f_X4_skipByte o_this_reader with | o_this_reader_26 => (match f_X0_goOn (o_this.1, o_this.2.1, o_this.2.2.1, o_this.2.2.2.1, o_this.2.2.2.2.1, o_this.2.2.2.2.2.1, o_this.2.2.2.2.2.2.1, o_this.2.2.2.2.2.2.2.1, (o_this.2.2.2.2.2.2.2.2.1 + (1 : Int32)), o_this.2.2.2.2.2.2.2.2.2.1, (o_this.2.2.2.2.2.2.2.2.2.2.1 - (1 : Int32)), o_this.2.2.2.2.2.2.2.2.2.2.2.1, o_this.2.2.2.2.2.2.2.2.2.2.2.2) o_this_reader_26 with | o_this_27 => (o_this_27, o_this_printer, r_this_printer_line, o_this_reader_26, r_p1_bytes))) else (match f_X2_print o_this_printer r_this_printer_line (f_X6_byteAt r_p1_bytes o_this.2.2.2.2.2.2.2.2.1) with | (o_this_printer_24, r_this_printer_line_24) => (match f_X0_goOn (o_this.1, o_this.2.1, o_this.2.2.1, o_this.2.2.2.1, o_this.2.2.2.2.1, o_this.2.2.2.2.2.1, o_this.2.2.2.2.2.2.1, o_this.2.2.2.2.2.2.2.1, (o_this.2.2.2.2.2.2.2.2.1 + (1 : Int32)), o_this.2.2.2.2.2.2.2.2.2.1, (o_this.2.2.2.2.2.2.2.2.2.2.1 - (1 : Int32)), o_this.2.2.2.2.2.2.2.2.2.2.2.1, o_this.2.2.2.2.2.2.2.2.2.2.2.2) o_this_reader with | o_this_25 => (o_this_25, o_this_printer_24, r_this_printer_line_24, o_this_reader, r_p1_bytes)))) else (match f_X0_end o_this 0 32 with | o_this_28 => (o_this_28, o_this_printer, r_this_printer_line, o_this_reader, r_p1_bytes))) else (if (f_X6_holds o_this.2.2.2.2.2.2.2.2.1 1) = true then (if (f_X6_isOpen r_p1_keys o_this.2.2.2.2.2.2.2.2.1 1 o_this.2.2.2.1) = true then (match f_X4_nextByte o_this_reader r_this_reader_record with | (v_35, o_this_reader_35) => (match f_X6_putByte r_p1_bytes o_this.2.2.2.2.2.2.2.2.1 v_35 with | r_p1_bytes_36 => (match f_X0_goOn (o_this.1, o_this.2.1, o_this.2.2.1, o_this.2.2.2.1, o_this.2.2.2.2.1, o_this.2.2.2.2.2.1, o_this.2.2.2.2.2.2.1, o_this.2.2.2.2.2.2.2.1, (o_this.2.2.2.2.2.2.2.2.1 + (1 : Int32)), o_this.2.2.2.2.2.2.2.2.2.1, (o_this.2.2.2.2.2.2.2.2.2.2.1 - (1 : Int32)), o_this.2.2.2.2.2.2.2.2.2.2.2.1, o_this.2.2.2.2.2.2.2.2.2.2.2.2) o_this_reader_35 with | o_this_37 => (o_this_37, o_this_printer, r_this_printer_line, o_this_reader_35, r_p1_bytes_36)))) else (match f_X0_end o_this 0 16 with | o_this_38 => (o_this_38, o_this_printer, r_this_printer_line, o_this_reader, r_p1_bytes))) else (match f_X0_end o_this 0 32 with | o_this_39 => (o_this_39, o_this_printer, r_this_printer_line, o_this_reader, r_p1_bytes)))) else (if (f_X6_holds o_this.2.2.2.2.2.2.2.2.1 1) = true then (if (f_X0_isReading o_this) = true then (match f_X4_skipByte o_this_reader with | o_this_reader_12 => (match f_X0_goOn (o_this.1, o_this.2.1, o_this.2.2.1, o_this.2.2.2.1, o_this.2.2.2.2.1, o_this.2.2.2.2.2.1, o_this.2.2.2.2.2.2.1, o_this.2.2.2.2.2.2.2.1, (o_this.2.2.2.2.2.2.2.2.1 + (1 : Int32)), o_this.2.2.2.2.2.2.2.2.2.1, (o_this.2.2.2.2.2.2.2.2.2.2.1 - (1 : Int32)), o_this.2.2.2.2.2.2.2.2.2.2.2.1, o_this.2.2.2.2.2.2.2.2.2.2.2.2) o_this_reader_12 with | o_this_13 => (o_this_13, o_this_printer, r_this_printer_line, o_this_reader_12, r_p1_bytes))) else (match f_X2_print o_this_printer r_this_printer_line (f_X6_byteAt r_p1_bytes o_this.2.2.2.2.2.2.2.2.1) with | (o_this_printer_10, r_this_printer_line_10) => (match f_X0_goOn (o_this.1, o_this.2.1, o_this.2.2.1, o_this.2.2.2.1, o_this.2.2.2.2.1, o_this.2.2.2.2.2.1, o_this.2.2.2.2.2.2.1, o_this.2.2.2.2.2.2.2.1, (o_this.2.2.2.2.2.2.2.2.1 + (1 : Int32)), o_this.2.2.2.2.2.2.2.2.2.1, (o_this.2.2.2.2.2.2.2.2.2.2.1 - (1 : Int32)), o_this.2.2.2.2.2.2.2.2.2.2.2.1, o_this.2.2.2.2.2.2.2.2.2.2.2.2) o_this_reader with | o_this_11 => (o_this_11, o_this_printer_10, r_this_printer_line_10, o_this_reader, r_p1_bytes)))) else (match f_X0_end o_this 0 32 with | o_this_14 => (o_this_14, o_this_printer, r_this_printer_line, o_this_reader, r_p1_bytes))))
set_option maxHeartbeats 4000000 in
set_option maxRecDepth 100000 in
theorem c_X0_moveByte (l : Launch) (D : va_G) (a_this a_this_printer a_this_printer_line a_this_reader a_this_reader_record a_p1 a_p1_bytes a_p1_keys a_this_reader_making a_this_reader_queue a_this_reader_lengths : Nat) (k_this_printer_line k_this_reader_record k_p1_bytes k_p1_keys : ClassId) (o_this : Bool × Bool × Int32 × Int32 × Int32 × Bool × Bool × Bool × Int32 × Int32 × Int32 × Int32 × Int32) (o_this_printer : Int32 × Int32) (r_this_printer_line : Nat → Int32) (o_this_reader : Int32 × Int32 × Int32 × Int32 × Int32) (r_this_reader_record : Nat → Int32) (r_p1_bytes : Nat → Int32) (r_p1_keys : Nat → Int32) : CtV l yX0_moveByte cX0_moveByte 3 none { frames := 3, cells := 0, slots := 0, locals := 63 } D [.ref a_this, .ref a_p1] [(a_this, oX0 a_this_reader a_this_printer o_this), (a_this_printer, oX2 a_this_printer_line o_this_printer), (a_this_printer_line, .inl (k_this_printer_line, 32, .inl r_this_printer_line)), (a_this_reader, oX4 a_this_reader_making a_this_reader_queue a_this_reader_lengths a_this_reader_record o_this_reader), (a_this_reader_record, .inl (k_this_reader_record, 16, .inl r_this_reader_record)), (a_p1, oX6 a_p1_bytes a_p1_keys), (a_p1_bytes, .inl (k_p1_bytes, 2048, .inl r_p1_bytes)), (a_p1_keys, .inl (k_p1_keys, 8, .inl r_p1_keys))] [(k_this_printer_line, .byte), (k_this_reader_record, .byte), (k_p1_bytes, .byte), (k_p1_keys, .int)] (fun (u : (Bool × Bool × Int32 × Int32 × Int32 × Bool × Bool × Bool × Int32 × Int32 × Int32 × Int32 × Int32) × (Int32 × Int32) × (Nat → Int32) × (Int32 × Int32 × Int32 × Int32 × Int32) × (Nat → Int32)) => f_X0_moveByte o_this o_this_printer r_this_printer_line o_this_reader r_this_reader_record r_p1_bytes r_p1_keys = u) (fun u => [(a_this, oX0 a_this_reader a_this_printer u.1), (a_this_printer, oX2 a_this_printer_line u.2.1), (a_this_printer_line, .inl (k_this_printer_line, 32, .inl u.2.2.1)), (a_this_reader, oX4 a_this_reader_making a_this_reader_queue a_this_reader_lengths a_this_reader_record u.2.2.2.1), (a_this_reader_record, .inl (k_this_reader_record, 16, .inl r_this_reader_record)), (a_p1, oX6 a_p1_bytes a_p1_keys), (a_p1_bytes, .inl (k_p1_bytes, 2048, .inl u.2.2.2.2)), (a_p1_keys, .inl (k_p1_keys, 8, .inl r_p1_keys))]) := by
  refine CtV.of (by decide) (Nat.le_of_ble_eq_true rfl) ?_
  intro p e s m below meth c A ls Q hE hP hD hS hl hQ
  obtain ⟨hx, hb, hml, hown, ht, hN, hK, hA⟩ := hE
  have hown : s.vm.findClass RX0 = some m.cls := hown
  have hl : lv_has ls 3 [(0, .ref a_this), (1, .ref a_p1)] := hl
  obtain ⟨F, hF⟩ : ∃ F, f_X0_moveByte o_this o_this_printer r_this_printer_line o_this_reader r_this_reader_record r_p1_bytes r_p1_keys = F := ⟨_, rfl⟩
  rw [hF] at hQ
  unfold f_X0_moveByte at hF
  refine lv_aload_n hx hb dX0_moveByte_0 rfl (lv_at hl 0 rfl) ?_
  refine q_Vi (rest := []) (c_X0_isReading l D a_this a_this_reader a_this_printer o_this) cv_X0_isReading hx hb hml hown ht hN hK hA hP hD hS hl.1 (km_X0_98) ⟨Nat.le_of_ble_eq_true rfl, Nat.le_of_ble_eq_true rfl⟩ rfl rfl [0] (by decide) rfl [] rfl (fun _ => rfl) (ci := 0) rfl rfl rfl rfl rfl (Nat.le_of_ble_eq_true rfl) dX0_moveByte_1 ⟨Nat.zero_le _, Nat.zero_le _⟩ (fun r u H locs hw hP hD hS => ?_)
  obtain ⟨rfl, rfl⟩ := hw
  have hP : va_P D vwCl [(a_this, oX0 a_this_reader a_this_printer o_this), (a_this_printer, oX2 a_this_printer_line o_this_printer), (a_this_printer_line, .inl (k_this_printer_line, 32, .inl r_this_printer_line)), (a_this_reader, oX4 a_this_reader_making a_this_reader_queue a_this_reader_lengths a_this_reader_record o_this_reader), (a_this_reader_record, .inl (k_this_reader_record, 16, .inl r_this_reader_record)), (a_p1, oX6 a_p1_bytes a_p1_keys), (a_p1_bytes, .inl (k_p1_bytes, 2048, .inl r_p1_bytes)), (a_p1_keys, .inl (k_p1_keys, 8, .inl r_p1_keys))] H := hP
  have hD : va_D A [(a_this, oX0 a_this_reader a_this_printer o_this), (a_this_printer, oX2 a_this_printer_line o_this_printer), (a_this_printer_line, .inl (k_this_printer_line, 32, .inl r_this_printer_line)), (a_this_reader, oX4 a_this_reader_making a_this_reader_queue a_this_reader_lengths a_this_reader_record o_this_reader), (a_this_reader_record, .inl (k_this_reader_record, 16, .inl r_this_reader_record)), (a_p1, oX6 a_p1_bytes a_p1_keys), (a_p1_bytes, .inl (k_p1_bytes, 2048, .inl r_p1_bytes)), (a_p1_keys, .inl (k_p1_keys, 8, .inl r_p1_keys))] := hD
  refine lv_if_eq (tgt := 20) hx hb dX0_moveByte_4 (by decide) (fun c_2 => ?_) (fun c_2 => ?_)
  · have c_2 : ¬ (f_X0_isReading o_this) = true := by rw [(bI_eq0 _).mp c_2]; decide
    rw [if_neg c_2] at hF
    refine lv_iconst (v := 0) hx hb dX0_moveByte_20 (by decide) ?_
    refine lv_istore_n (lv' := [(2, .int 0), (0, .ref a_this), (1, .ref a_p1)]) hx hb dX0_moveByte_21 rfl hl (by decide) rfl (fun ls hl => ?_)
    refine lv_aload_n hx hb dX0_moveByte_22 rfl (lv_at hl 1 rfl) ?_
    refine gf_X0_82 (v := .int o_this.2.2.2.2.2.2.2.2.1) hx hb hown ht hK hP 0 rfl rfl dX0_moveByte_23 ?_
    refine lv_iconst (v := 1) hx hb dX0_moveByte_26 (by decide) ?_
    refine q_Si (rest := []) (c_X6_holds l D o_this.2.2.2.2.2.2.2.2.1 1) cv_X6_holds hx hb hml hown ht hN hK hA hP hD hS hl.1 (km_X0_68) ⟨Nat.le_of_ble_eq_true rfl, Nat.le_of_ble_eq_true rfl⟩ rfl rfl [] (by decide) rfl [] rfl (fun _ => rfl) rfl rfl (Nat.le_of_ble_eq_true rfl) dX0_moveByte_27 ⟨Nat.zero_le _, Nat.zero_le _⟩ (fun r u H locs hw hP hD hS => ?_)
    obtain ⟨rfl, rfl⟩ := hw
    have hP : va_P D vwCl [(a_this, oX0 a_this_reader a_this_printer o_this), (a_this_printer, oX2 a_this_printer_line o_this_printer), (a_this_printer_line, .inl (k_this_printer_line, 32, .inl r_this_printer_line)), (a_this_reader, oX4 a_this_reader_making a_this_reader_queue a_this_reader_lengths a_this_reader_record o_this_reader), (a_this_reader_record, .inl (k_this_reader_record, 16, .inl r_this_reader_record)), (a_p1, oX6 a_p1_bytes a_p1_keys), (a_p1_bytes, .inl (k_p1_bytes, 2048, .inl r_p1_bytes)), (a_p1_keys, .inl (k_p1_keys, 8, .inl r_p1_keys))] H := hP
    have hD : va_D A [(a_this, oX0 a_this_reader a_this_printer o_this), (a_this_printer, oX2 a_this_printer_line o_this_printer), (a_this_printer_line, .inl (k_this_printer_line, 32, .inl r_this_printer_line)), (a_this_reader, oX4 a_this_reader_making a_this_reader_queue a_this_reader_lengths a_this_reader_record o_this_reader), (a_this_reader_record, .inl (k_this_reader_record, 16, .inl r_this_reader_record)), (a_p1, oX6 a_p1_bytes a_p1_keys), (a_p1_bytes, .inl (k_p1_bytes, 2048, .inl r_p1_bytes)), (a_p1_keys, .inl (k_p1_keys, 8, .inl r_p1_keys))] := hD
    refine lv_if_ne (tgt := 41) hx hb dX0_moveByte_30 (by decide) (fun c_4 => ?_) (fun c_4 => ?_)
    · have c_4 := (bI_ne0 _).mp c_4
      rw [if_pos c_4] at hF
      refine lv_iload_n hx hb dX0_moveByte_41 rfl (lv_at hl 0 rfl) ?_
      refine lv_if_eq (tgt := 69) hx hb dX0_moveByte_42 (by decide) (fun c_5 => ?_) (fun c_5 => ?_)
      · skip
        refine lv_iload_n hx hb dX0_moveByte_69 rfl (lv_at hl 0 rfl) ?_
        refine lv_if_eq (tgt := 91) hx hb dX0_moveByte_70 (by decide) (fun c_6 => ?_) (fun c_6 => ?_)
        · skip
          refine lv_aload_n hx hb dX0_moveByte_91 rfl (lv_at hl 1 rfl) ?_
          refine q_Vi (rest := []) (c_X0_isReading l D a_this a_this_reader a_this_printer o_this) cv_X0_isReading hx hb hml hown ht hN hK hA hP hD hS hl.1 (km_X0_98) ⟨Nat.le_of_ble_eq_true rfl, Nat.le_of_ble_eq_true rfl⟩ rfl rfl [0] (by decide) rfl [] rfl (fun _ => rfl) (ci := 0) rfl rfl rfl rfl rfl (Nat.le_of_ble_eq_true rfl) dX0_moveByte_92 ⟨Nat.zero_le _, Nat.zero_le _⟩ (fun r u H locs hw hP hD hS => ?_)
          obtain ⟨rfl, rfl⟩ := hw
          have hP : va_P D vwCl [(a_this, oX0 a_this_reader a_this_printer o_this), (a_this_printer, oX2 a_this_printer_line o_this_printer), (a_this_printer_line, .inl (k_this_printer_line, 32, .inl r_this_printer_line)), (a_this_reader, oX4 a_this_reader_making a_this_reader_queue a_this_reader_lengths a_this_reader_record o_this_reader), (a_this_reader_record, .inl (k_this_reader_record, 16, .inl r_this_reader_record)), (a_p1, oX6 a_p1_bytes a_p1_keys), (a_p1_bytes, .inl (k_p1_bytes, 2048, .inl r_p1_bytes)), (a_p1_keys, .inl (k_p1_keys, 8, .inl r_p1_keys))] H := hP
          have hD : va_D A [(a_this, oX0 a_this_reader a_this_printer o_this), (a_this_printer, oX2 a_this_printer_line o_this_printer), (a_this_printer_line, .inl (k_this_printer_line, 32, .inl r_this_printer_line)), (a_this_reader, oX4 a_this_reader_making a_this_reader_queue a_this_reader_lengths a_this_reader_record o_this_reader), (a_this_reader_record, .inl (k_this_reader_record, 16, .inl r_this_reader_record)), (a_p1, oX6 a_p1_bytes a_p1_keys), (a_p1_bytes, .inl (k_p1_bytes, 2048, .inl r_p1_bytes)), (a_p1_keys, .inl (k_p1_keys, 8, .inl r_p1_keys))] := hD
          refine lv_if_eq (tgt := 108) hx hb dX0_moveByte_95 (by decide) (fun c_8 => ?_) (fun c_8 => ?_)
          · have c_8 : ¬ (f_X0_isReading o_this) = true := by rw [(bI_eq0 _).mp c_8]; decide
            rw [if_neg c_8] at hF
            refine lv_aload_n hx hb dX0_moveByte_108 rfl (lv_at hl 1 rfl) ?_
            refine gf_X0_21 (v := .ref a_this_printer) hx hb hown ht hK hP 0 rfl rfl dX0_moveByte_109 ?_
            refine lv_aload_n hx hb dX0_moveByte_112 rfl (lv_at hl 2 rfl) ?_
            refine lv_aload_n hx hb dX0_moveByte_113 rfl (lv_at hl 1 rfl) ?_
            refine gf_X0_82 (v := .int o_this.2.2.2.2.2.2.2.2.1) hx hb hown ht hK hP 0 rfl rfl dX0_moveByte_114 ?_
            refine q_Vi (rest := [.ref a_this_printer]) (c_X6_byteAt l D a_p1 a_p1_bytes a_p1_keys k_p1_bytes r_p1_bytes o_this.2.2.2.2.2.2.2.2.1) cv_X6_byteAt hx hb hml hown ht hN hK hA hP hD hS hl.1 (km_X0_79) ⟨Nat.le_of_ble_eq_true rfl, Nat.le_of_ble_eq_true rfl⟩ rfl rfl [5, 6] (by decide) rfl [2] rfl (fun _ => rfl) (ci := 6) rfl rfl rfl rfl rfl (Nat.le_of_ble_eq_true rfl) dX0_moveByte_117 ⟨Nat.zero_le _, Nat.zero_le _⟩ (fun r u H locs hw hP hD hS => ?_)
            obtain ⟨rfl, rfl⟩ := hw
            have hP : va_P D vwCl [(a_this, oX0 a_this_reader a_this_printer o_this), (a_this_printer, oX2 a_this_printer_line o_this_printer), (a_this_printer_line, .inl (k_this_printer_line, 32, .inl r_this_printer_line)), (a_this_reader, oX4 a_this_reader_making a_this_reader_queue a_this_reader_lengths a_this_reader_record o_this_reader), (a_this_reader_record, .inl (k_this_reader_record, 16, .inl r_this_reader_record)), (a_p1, oX6 a_p1_bytes a_p1_keys), (a_p1_bytes, .inl (k_p1_bytes, 2048, .inl r_p1_bytes)), (a_p1_keys, .inl (k_p1_keys, 8, .inl r_p1_keys))] H := hP
            have hD : va_D A [(a_this, oX0 a_this_reader a_this_printer o_this), (a_this_printer, oX2 a_this_printer_line o_this_printer), (a_this_printer_line, .inl (k_this_printer_line, 32, .inl r_this_printer_line)), (a_this_reader, oX4 a_this_reader_making a_this_reader_queue a_this_reader_lengths a_this_reader_record o_this_reader), (a_this_reader_record, .inl (k_this_reader_record, 16, .inl r_this_reader_record)), (a_p1, oX6 a_p1_bytes a_p1_keys), (a_p1_bytes, .inl (k_p1_bytes, 2048, .inl r_p1_bytes)), (a_p1_keys, .inl (k_p1_keys, 8, .inl r_p1_keys))] := hD
            refine q_Vv (rest := []) (c_X2_print l D a_this_printer a_this_printer_line k_this_printer_line o_this_printer r_this_printer_line (f_X6_byteAt r_p1_bytes o_this.2.2.2.2.2.2.2.2.1)) cv_X2_print hx hb hml hown ht hN hK hA hP hD hS hl.1 (km_X0_131) ⟨Nat.le_of_ble_eq_true rfl, Nat.le_of_ble_eq_true rfl⟩ rfl rfl [1, 2] (by decide) rfl [0] rfl (fun _ => rfl) (ci := 2) rfl rfl rfl rfl rfl (Nat.le_of_ble_eq_true rfl) dX0_moveByte_120 ⟨Nat.zero_le _, Nat.zero_le _⟩ (fun u H locs hw hP hD hS => ?_)
            obtain ⟨o_this_printer_10, r_this_printer_line_10⟩ := u
            have hP : va_P D vwCl [(a_this, oX0 a_this_reader a_this_printer o_this), (a_this_printer, oX2 a_this_printer_line o_this_printer_10), (a_this_printer_line, .inl (k_this_printer_line, 32, .inl r_this_printer_line_10)), (a_this_reader, oX4 a_this_reader_making a_this_reader_queue a_this_reader_lengths a_this_reader_record o_this_reader), (a_this_reader_record, .inl (k_this_reader_record, 16, .inl r_this_reader_record)), (a_p1, oX6 a_p1_bytes a_p1_keys), (a_p1_bytes, .inl (k_p1_bytes, 2048, .inl r_p1_bytes)), (a_p1_keys, .inl (k_p1_keys, 8, .inl r_p1_keys))] H := hP
            have hD : va_D A [(a_this, oX0 a_this_reader a_this_printer o_this), (a_this_printer, oX2 a_this_printer_line o_this_printer_10), (a_this_printer_line, .inl (k_this_printer_line, 32, .inl r_this_printer_line_10)), (a_this_reader, oX4 a_this_reader_making a_this_reader_queue a_this_reader_lengths a_this_reader_record o_this_reader), (a_this_reader_record, .inl (k_this_reader_record, 16, .inl r_this_reader_record)), (a_p1, oX6 a_p1_bytes a_p1_keys), (a_p1_bytes, .inl (k_p1_bytes, 2048, .inl r_p1_bytes)), (a_p1_keys, .inl (k_p1_keys, 8, .inl r_p1_keys))] := hD
            rw [hw] at hF
            try dsimp only at hF
            refine lv_aload_n hx hb dX0_moveByte_123 rfl (lv_at hl 1 rfl) ?_
            refine lv_dup hx hb dX0_moveByte_124 rfl ?_
            refine gf_X0_82 (v := .int o_this.2.2.2.2.2.2.2.2.1) hx hb hown ht hK hP 0 rfl rfl dX0_moveByte_125 ?_
            refine lv_iconst (v := 1) hx hb dX0_moveByte_128 (by decide) ?_
            refine lv_iadd hx hb dX0_moveByte_129 ?_
            refine pf_X0_82 (x := (o_this.2.2.2.2.2.2.2.2.1 + (1 : Int32))) hx hb hown ht hK hP hD hS 0 rfl (Nat.le_of_ble_eq_true rfl) dX0_moveByte_130 (fun H locs hP hD hS => ?_)
            have hP : va_P D vwCl [(a_this, oX0 a_this_reader a_this_printer (o_this.1, o_this.2.1, o_this.2.2.1, o_this.2.2.2.1, o_this.2.2.2.2.1, o_this.2.2.2.2.2.1, o_this.2.2.2.2.2.2.1, o_this.2.2.2.2.2.2.2.1, (o_this.2.2.2.2.2.2.2.2.1 + (1 : Int32)), o_this.2.2.2.2.2.2.2.2.2.1, o_this.2.2.2.2.2.2.2.2.2.2.1, o_this.2.2.2.2.2.2.2.2.2.2.2.1, o_this.2.2.2.2.2.2.2.2.2.2.2.2)), (a_this_printer, oX2 a_this_printer_line o_this_printer_10), (a_this_printer_line, .inl (k_this_printer_line, 32, .inl r_this_printer_line_10)), (a_this_reader, oX4 a_this_reader_making a_this_reader_queue a_this_reader_lengths a_this_reader_record o_this_reader), (a_this_reader_record, .inl (k_this_reader_record, 16, .inl r_this_reader_record)), (a_p1, oX6 a_p1_bytes a_p1_keys), (a_p1_bytes, .inl (k_p1_bytes, 2048, .inl r_p1_bytes)), (a_p1_keys, .inl (k_p1_keys, 8, .inl r_p1_keys))] H := hP
            have hD : va_D A [(a_this, oX0 a_this_reader a_this_printer (o_this.1, o_this.2.1, o_this.2.2.1, o_this.2.2.2.1, o_this.2.2.2.2.1, o_this.2.2.2.2.2.1, o_this.2.2.2.2.2.2.1, o_this.2.2.2.2.2.2.2.1, (o_this.2.2.2.2.2.2.2.2.1 + (1 : Int32)), o_this.2.2.2.2.2.2.2.2.2.1, o_this.2.2.2.2.2.2.2.2.2.2.1, o_this.2.2.2.2.2.2.2.2.2.2.2.1, o_this.2.2.2.2.2.2.2.2.2.2.2.2)), (a_this_printer, oX2 a_this_printer_line o_this_printer_10), (a_this_printer_line, .inl (k_this_printer_line, 32, .inl r_this_printer_line_10)), (a_this_reader, oX4 a_this_reader_making a_this_reader_queue a_this_reader_lengths a_this_reader_record o_this_reader), (a_this_reader_record, .inl (k_this_reader_record, 16, .inl r_this_reader_record)), (a_p1, oX6 a_p1_bytes a_p1_keys), (a_p1_bytes, .inl (k_p1_bytes, 2048, .inl r_p1_bytes)), (a_p1_keys, .inl (k_p1_keys, 8, .inl r_p1_keys))] := hD
            refine lv_aload_n hx hb dX0_moveByte_133 rfl (lv_at hl 1 rfl) ?_
            refine lv_dup hx hb dX0_moveByte_134 rfl ?_
            refine gf_X0_72 (v := .int o_this.2.2.2.2.2.2.2.2.2.2.1) hx hb hown ht hK hP 0 rfl rfl dX0_moveByte_135 ?_
            refine lv_iconst (v := 1) hx hb dX0_moveByte_138 (by decide) ?_
            refine lv_isub hx hb dX0_moveByte_139 ?_
            refine pf_X0_72 (x := (o_this.2.2.2.2.2.2.2.2.2.2.1 - (1 : Int32))) hx hb hown ht hK hP hD hS 0 rfl (Nat.le_of_ble_eq_true rfl) dX0_moveByte_140 (fun H locs hP hD hS => ?_)
            have hP : va_P D vwCl [(a_this, oX0 a_this_reader a_this_printer (o_this.1, o_this.2.1, o_this.2.2.1, o_this.2.2.2.1, o_this.2.2.2.2.1, o_this.2.2.2.2.2.1, o_this.2.2.2.2.2.2.1, o_this.2.2.2.2.2.2.2.1, (o_this.2.2.2.2.2.2.2.2.1 + (1 : Int32)), o_this.2.2.2.2.2.2.2.2.2.1, (o_this.2.2.2.2.2.2.2.2.2.2.1 - (1 : Int32)), o_this.2.2.2.2.2.2.2.2.2.2.2.1, o_this.2.2.2.2.2.2.2.2.2.2.2.2)), (a_this_printer, oX2 a_this_printer_line o_this_printer_10), (a_this_printer_line, .inl (k_this_printer_line, 32, .inl r_this_printer_line_10)), (a_this_reader, oX4 a_this_reader_making a_this_reader_queue a_this_reader_lengths a_this_reader_record o_this_reader), (a_this_reader_record, .inl (k_this_reader_record, 16, .inl r_this_reader_record)), (a_p1, oX6 a_p1_bytes a_p1_keys), (a_p1_bytes, .inl (k_p1_bytes, 2048, .inl r_p1_bytes)), (a_p1_keys, .inl (k_p1_keys, 8, .inl r_p1_keys))] H := hP
            have hD : va_D A [(a_this, oX0 a_this_reader a_this_printer (o_this.1, o_this.2.1, o_this.2.2.1, o_this.2.2.2.1, o_this.2.2.2.2.1, o_this.2.2.2.2.2.1, o_this.2.2.2.2.2.2.1, o_this.2.2.2.2.2.2.2.1, (o_this.2.2.2.2.2.2.2.2.1 + (1 : Int32)), o_this.2.2.2.2.2.2.2.2.2.1, (o_this.2.2.2.2.2.2.2.2.2.2.1 - (1 : Int32)), o_this.2.2.2.2.2.2.2.2.2.2.2.1, o_this.2.2.2.2.2.2.2.2.2.2.2.2)), (a_this_printer, oX2 a_this_printer_line o_this_printer_10), (a_this_printer_line, .inl (k_this_printer_line, 32, .inl r_this_printer_line_10)), (a_this_reader, oX4 a_this_reader_making a_this_reader_queue a_this_reader_lengths a_this_reader_record o_this_reader), (a_this_reader_record, .inl (k_this_reader_record, 16, .inl r_this_reader_record)), (a_p1, oX6 a_p1_bytes a_p1_keys), (a_p1_bytes, .inl (k_p1_bytes, 2048, .inl r_p1_bytes)), (a_p1_keys, .inl (k_p1_keys, 8, .inl r_p1_keys))] := hD
            refine lv_aload_n hx hb dX0_moveByte_143 rfl (lv_at hl 1 rfl) ?_
            refine q_Vv (rest := []) (c_X0_goOn l D a_this a_this_reader a_this_printer a_this_reader_making a_this_reader_queue a_this_reader_lengths a_this_reader_record (o_this.1, o_this.2.1, o_this.2.2.1, o_this.2.2.2.1, o_this.2.2.2.2.1, o_this.2.2.2.2.2.1, o_this.2.2.2.2.2.2.1, o_this.2.2.2.2.2.2.2.1, (o_this.2.2.2.2.2.2.2.2.1 + (1 : Int32)), o_this.2.2.2.2.2.2.2.2.2.1, (o_this.2.2.2.2.2.2.2.2.2.2.1 - (1 : Int32)), o_this.2.2.2.2.2.2.2.2.2.2.2.1, o_this.2.2.2.2.2.2.2.2.2.2.2.2) o_this_reader) cv_X0_goOn hx hb hml hown ht hN hK hA hP hD hS hl.1 (km_X0_135) ⟨Nat.le_of_ble_eq_true rfl, Nat.le_of_ble_eq_true rfl⟩ rfl rfl [0, 3] (by decide) rfl [] rfl (fun _ => rfl) (ci := 0) rfl rfl rfl rfl rfl (Nat.le_of_ble_eq_true rfl) dX0_moveByte_144 ⟨Nat.zero_le _, Nat.zero_le _⟩ (fun u H locs hw hP hD hS => ?_)
            obtain ⟨o_this_11, rfl⟩ : ∃ z, z = u := ⟨_, rfl⟩
            have hP : va_P D vwCl [(a_this, oX0 a_this_reader a_this_printer o_this_11), (a_this_printer, oX2 a_this_printer_line o_this_printer_10), (a_this_printer_line, .inl (k_this_printer_line, 32, .inl r_this_printer_line_10)), (a_this_reader, oX4 a_this_reader_making a_this_reader_queue a_this_reader_lengths a_this_reader_record o_this_reader), (a_this_reader_record, .inl (k_this_reader_record, 16, .inl r_this_reader_record)), (a_p1, oX6 a_p1_bytes a_p1_keys), (a_p1_bytes, .inl (k_p1_bytes, 2048, .inl r_p1_bytes)), (a_p1_keys, .inl (k_p1_keys, 8, .inl r_p1_keys))] H := hP
            have hD : va_D A [(a_this, oX0 a_this_reader a_this_printer o_this_11), (a_this_printer, oX2 a_this_printer_line o_this_printer_10), (a_this_printer_line, .inl (k_this_printer_line, 32, .inl r_this_printer_line_10)), (a_this_reader, oX4 a_this_reader_making a_this_reader_queue a_this_reader_lengths a_this_reader_record o_this_reader), (a_this_reader_record, .inl (k_this_reader_record, 16, .inl r_this_reader_record)), (a_p1, oX6 a_p1_bytes a_p1_keys), (a_p1_bytes, .inl (k_p1_bytes, 2048, .inl r_p1_bytes)), (a_p1_keys, .inl (k_p1_keys, 8, .inl r_p1_keys))] := hD
            rw [hw] at hF
            try dsimp only at hF
            exact hQ (o_this_11, o_this_printer_10, r_this_printer_line_10, o_this_reader, r_p1_bytes) _ _ _ _ dX0_moveByte_147 hF.symm hP hD hS
          · have c_8 := (bI_ne0 _).mp c_8
            rw [if_pos c_8] at hF
            refine lv_aload_n hx hb dX0_moveByte_98 rfl (lv_at hl 1 rfl) ?_
            refine gf_X0_12 (v := .ref a_this_reader) hx hb hown ht hK hP 0 rfl rfl dX0_moveByte_99 ?_
            refine q_Vv (rest := []) (c_X4_skipByte l D a_this_reader a_this_reader_making a_this_reader_queue a_this_reader_lengths a_this_reader_record o_this_reader) cv_X4_skipByte hx hb hml hown ht hN hK hA hP hD hS hl.1 (km_X0_128) ⟨Nat.le_of_ble_eq_true rfl, Nat.le_of_ble_eq_true rfl⟩ rfl rfl [3] (by decide) rfl [] rfl (fun _ => rfl) (ci := 4) rfl rfl rfl rfl rfl (Nat.le_of_ble_eq_true rfl) dX0_moveByte_102 ⟨Nat.zero_le _, Nat.zero_le _⟩ (fun u H locs hw hP hD hS => ?_)
            obtain ⟨o_this_reader_12, rfl⟩ : ∃ z, z = u := ⟨_, rfl⟩
            have hP : va_P D vwCl [(a_this, oX0 a_this_reader a_this_printer o_this), (a_this_printer, oX2 a_this_printer_line o_this_printer), (a_this_printer_line, .inl (k_this_printer_line, 32, .inl r_this_printer_line)), (a_this_reader, oX4 a_this_reader_making a_this_reader_queue a_this_reader_lengths a_this_reader_record o_this_reader_12), (a_this_reader_record, .inl (k_this_reader_record, 16, .inl r_this_reader_record)), (a_p1, oX6 a_p1_bytes a_p1_keys), (a_p1_bytes, .inl (k_p1_bytes, 2048, .inl r_p1_bytes)), (a_p1_keys, .inl (k_p1_keys, 8, .inl r_p1_keys))] H := hP
            have hD : va_D A [(a_this, oX0 a_this_reader a_this_printer o_this), (a_this_printer, oX2 a_this_printer_line o_this_printer), (a_this_printer_line, .inl (k_this_printer_line, 32, .inl r_this_printer_line)), (a_this_reader, oX4 a_this_reader_making a_this_reader_queue a_this_reader_lengths a_this_reader_record o_this_reader_12), (a_this_reader_record, .inl (k_this_reader_record, 16, .inl r_this_reader_record)), (a_p1, oX6 a_p1_bytes a_p1_keys), (a_p1_bytes, .inl (k_p1_bytes, 2048, .inl r_p1_bytes)), (a_p1_keys, .inl (k_p1_keys, 8, .inl r_p1_keys))] := hD
            rw [hw] at hF
            try dsimp only at hF
            refine lv_goto (tgt := 123) hx hb dX0_moveByte_105 (by decide) ?_
            refine lv_aload_n hx hb dX0_moveByte_123 rfl (lv_at hl 1 rfl) ?_
            refine lv_dup hx hb dX0_moveByte_124 rfl ?_
            refine gf_X0_82 (v := .int o_this.2.2.2.2.2.2.2.2.1) hx hb hown ht hK hP 0 rfl rfl dX0_moveByte_125 ?_
            refine lv_iconst (v := 1) hx hb dX0_moveByte_128 (by decide) ?_
            refine lv_iadd hx hb dX0_moveByte_129 ?_
            refine pf_X0_82 (x := (o_this.2.2.2.2.2.2.2.2.1 + (1 : Int32))) hx hb hown ht hK hP hD hS 0 rfl (Nat.le_of_ble_eq_true rfl) dX0_moveByte_130 (fun H locs hP hD hS => ?_)
            have hP : va_P D vwCl [(a_this, oX0 a_this_reader a_this_printer (o_this.1, o_this.2.1, o_this.2.2.1, o_this.2.2.2.1, o_this.2.2.2.2.1, o_this.2.2.2.2.2.1, o_this.2.2.2.2.2.2.1, o_this.2.2.2.2.2.2.2.1, (o_this.2.2.2.2.2.2.2.2.1 + (1 : Int32)), o_this.2.2.2.2.2.2.2.2.2.1, o_this.2.2.2.2.2.2.2.2.2.2.1, o_this.2.2.2.2.2.2.2.2.2.2.2.1, o_this.2.2.2.2.2.2.2.2.2.2.2.2)), (a_this_printer, oX2 a_this_printer_line o_this_printer), (a_this_printer_line, .inl (k_this_printer_line, 32, .inl r_this_printer_line)), (a_this_reader, oX4 a_this_reader_making a_this_reader_queue a_this_reader_lengths a_this_reader_record o_this_reader_12), (a_this_reader_record, .inl (k_this_reader_record, 16, .inl r_this_reader_record)), (a_p1, oX6 a_p1_bytes a_p1_keys), (a_p1_bytes, .inl (k_p1_bytes, 2048, .inl r_p1_bytes)), (a_p1_keys, .inl (k_p1_keys, 8, .inl r_p1_keys))] H := hP
            have hD : va_D A [(a_this, oX0 a_this_reader a_this_printer (o_this.1, o_this.2.1, o_this.2.2.1, o_this.2.2.2.1, o_this.2.2.2.2.1, o_this.2.2.2.2.2.1, o_this.2.2.2.2.2.2.1, o_this.2.2.2.2.2.2.2.1, (o_this.2.2.2.2.2.2.2.2.1 + (1 : Int32)), o_this.2.2.2.2.2.2.2.2.2.1, o_this.2.2.2.2.2.2.2.2.2.2.1, o_this.2.2.2.2.2.2.2.2.2.2.2.1, o_this.2.2.2.2.2.2.2.2.2.2.2.2)), (a_this_printer, oX2 a_this_printer_line o_this_printer), (a_this_printer_line, .inl (k_this_printer_line, 32, .inl r_this_printer_line)), (a_this_reader, oX4 a_this_reader_making a_this_reader_queue a_this_reader_lengths a_this_reader_record o_this_reader_12), (a_this_reader_record, .inl (k_this_reader_record, 16, .inl r_this_reader_record)), (a_p1, oX6 a_p1_bytes a_p1_keys), (a_p1_bytes, .inl (k_p1_bytes, 2048, .inl r_p1_bytes)), (a_p1_keys, .inl (k_p1_keys, 8, .inl r_p1_keys))] := hD
            refine lv_aload_n hx hb dX0_moveByte_133 rfl (lv_at hl 1 rfl) ?_
            refine lv_dup hx hb dX0_moveByte_134 rfl ?_
            refine gf_X0_72 (v := .int o_this.2.2.2.2.2.2.2.2.2.2.1) hx hb hown ht hK hP 0 rfl rfl dX0_moveByte_135 ?_
            refine lv_iconst (v := 1) hx hb dX0_moveByte_138 (by decide) ?_
            refine lv_isub hx hb dX0_moveByte_139 ?_
            refine pf_X0_72 (x := (o_this.2.2.2.2.2.2.2.2.2.2.1 - (1 : Int32))) hx hb hown ht hK hP hD hS 0 rfl (Nat.le_of_ble_eq_true rfl) dX0_moveByte_140 (fun H locs hP hD hS => ?_)
            have hP : va_P D vwCl [(a_this, oX0 a_this_reader a_this_printer (o_this.1, o_this.2.1, o_this.2.2.1, o_this.2.2.2.1, o_this.2.2.2.2.1, o_this.2.2.2.2.2.1, o_this.2.2.2.2.2.2.1, o_this.2.2.2.2.2.2.2.1, (o_this.2.2.2.2.2.2.2.2.1 + (1 : Int32)), o_this.2.2.2.2.2.2.2.2.2.1, (o_this.2.2.2.2.2.2.2.2.2.2.1 - (1 : Int32)), o_this.2.2.2.2.2.2.2.2.2.2.2.1, o_this.2.2.2.2.2.2.2.2.2.2.2.2)), (a_this_printer, oX2 a_this_printer_line o_this_printer), (a_this_printer_line, .inl (k_this_printer_line, 32, .inl r_this_printer_line)), (a_this_reader, oX4 a_this_reader_making a_this_reader_queue a_this_reader_lengths a_this_reader_record o_this_reader_12), (a_this_reader_record, .inl (k_this_reader_record, 16, .inl r_this_reader_record)), (a_p1, oX6 a_p1_bytes a_p1_keys), (a_p1_bytes, .inl (k_p1_bytes, 2048, .inl r_p1_bytes)), (a_p1_keys, .inl (k_p1_keys, 8, .inl r_p1_keys))] H := hP
            have hD : va_D A [(a_this, oX0 a_this_reader a_this_printer (o_this.1, o_this.2.1, o_this.2.2.1, o_this.2.2.2.1, o_this.2.2.2.2.1, o_this.2.2.2.2.2.1, o_this.2.2.2.2.2.2.1, o_this.2.2.2.2.2.2.2.1, (o_this.2.2.2.2.2.2.2.2.1 + (1 : Int32)), o_this.2.2.2.2.2.2.2.2.2.1, (o_this.2.2.2.2.2.2.2.2.2.2.1 - (1 : Int32)), o_this.2.2.2.2.2.2.2.2.2.2.2.1, o_this.2.2.2.2.2.2.2.2.2.2.2.2)), (a_this_printer, oX2 a_this_printer_line o_this_printer), (a_this_printer_line, .inl (k_this_printer_line, 32, .inl r_this_printer_line)), (a_this_reader, oX4 a_this_reader_making a_this_reader_queue a_this_reader_lengths a_this_reader_record o_this_reader_12), (a_this_reader_record, .inl (k_this_reader_record, 16, .inl r_this_reader_record)), (a_p1, oX6 a_p1_bytes a_p1_keys), (a_p1_bytes, .inl (k_p1_bytes, 2048, .inl r_p1_bytes)), (a_p1_keys, .inl (k_p1_keys, 8, .inl r_p1_keys))] := hD
            refine lv_aload_n hx hb dX0_moveByte_143 rfl (lv_at hl 1 rfl) ?_
            refine q_Vv (rest := []) (c_X0_goOn l D a_this a_this_reader a_this_printer a_this_reader_making a_this_reader_queue a_this_reader_lengths a_this_reader_record (o_this.1, o_this.2.1, o_this.2.2.1, o_this.2.2.2.1, o_this.2.2.2.2.1, o_this.2.2.2.2.2.1, o_this.2.2.2.2.2.2.1, o_this.2.2.2.2.2.2.2.1, (o_this.2.2.2.2.2.2.2.2.1 + (1 : Int32)), o_this.2.2.2.2.2.2.2.2.2.1, (o_this.2.2.2.2.2.2.2.2.2.2.1 - (1 : Int32)), o_this.2.2.2.2.2.2.2.2.2.2.2.1, o_this.2.2.2.2.2.2.2.2.2.2.2.2) o_this_reader_12) cv_X0_goOn hx hb hml hown ht hN hK hA hP hD hS hl.1 (km_X0_135) ⟨Nat.le_of_ble_eq_true rfl, Nat.le_of_ble_eq_true rfl⟩ rfl rfl [0, 3] (by decide) rfl [] rfl (fun _ => rfl) (ci := 0) rfl rfl rfl rfl rfl (Nat.le_of_ble_eq_true rfl) dX0_moveByte_144 ⟨Nat.zero_le _, Nat.zero_le _⟩ (fun u H locs hw hP hD hS => ?_)
            obtain ⟨o_this_13, rfl⟩ : ∃ z, z = u := ⟨_, rfl⟩
            have hP : va_P D vwCl [(a_this, oX0 a_this_reader a_this_printer o_this_13), (a_this_printer, oX2 a_this_printer_line o_this_printer), (a_this_printer_line, .inl (k_this_printer_line, 32, .inl r_this_printer_line)), (a_this_reader, oX4 a_this_reader_making a_this_reader_queue a_this_reader_lengths a_this_reader_record o_this_reader_12), (a_this_reader_record, .inl (k_this_reader_record, 16, .inl r_this_reader_record)), (a_p1, oX6 a_p1_bytes a_p1_keys), (a_p1_bytes, .inl (k_p1_bytes, 2048, .inl r_p1_bytes)), (a_p1_keys, .inl (k_p1_keys, 8, .inl r_p1_keys))] H := hP
            have hD : va_D A [(a_this, oX0 a_this_reader a_this_printer o_this_13), (a_this_printer, oX2 a_this_printer_line o_this_printer), (a_this_printer_line, .inl (k_this_printer_line, 32, .inl r_this_printer_line)), (a_this_reader, oX4 a_this_reader_making a_this_reader_queue a_this_reader_lengths a_this_reader_record o_this_reader_12), (a_this_reader_record, .inl (k_this_reader_record, 16, .inl r_this_reader_record)), (a_p1, oX6 a_p1_bytes a_p1_keys), (a_p1_bytes, .inl (k_p1_bytes, 2048, .inl r_p1_bytes)), (a_p1_keys, .inl (k_p1_keys, 8, .inl r_p1_keys))] := hD
            rw [hw] at hF
            try dsimp only at hF
            exact hQ (o_this_13, o_this_printer, r_this_printer_line, o_this_reader_12, r_p1_bytes) _ _ _ _ dX0_moveByte_147 hF.symm hP hD hS
        · exact absurd c_6 (by decide)
      · exact absurd c_5 (by decide)
    · have c_4 : ¬ (f_X6_holds o_this.2.2.2.2.2.2.2.2.1 1) = true := by rw [(bI_eq0 _).mp c_4]; decide
      rw [if_neg c_4] at hF
      refine lv_aload_n hx hb dX0_moveByte_33 rfl (lv_at hl 1 rfl) ?_
      refine lv_iconst (v := 0) hx hb dX0_moveByte_34 (by decide) ?_
      refine lv_bipush (v := 32) hx hb dX0_moveByte_35 (by decide) ?_
      refine q_Vv (rest := []) (c_X0_end l D a_this a_this_reader a_this_printer o_this 0 32) cv_X0_end hx hb hml hown ht hN hK hA hP hD hS hl.1 (km_X0_75) ⟨Nat.le_of_ble_eq_true rfl, Nat.le_of_ble_eq_true rfl⟩ rfl rfl [0] (by decide) rfl [] rfl (fun _ => rfl) (ci := 0) rfl rfl rfl rfl rfl (Nat.le_of_ble_eq_true rfl) dX0_moveByte_37 ⟨Nat.zero_le _, Nat.zero_le _⟩ (fun u H locs hw hP hD hS => ?_)
      obtain ⟨o_this_14, rfl⟩ : ∃ z, z = u := ⟨_, rfl⟩
      have hP : va_P D vwCl [(a_this, oX0 a_this_reader a_this_printer o_this_14), (a_this_printer, oX2 a_this_printer_line o_this_printer), (a_this_printer_line, .inl (k_this_printer_line, 32, .inl r_this_printer_line)), (a_this_reader, oX4 a_this_reader_making a_this_reader_queue a_this_reader_lengths a_this_reader_record o_this_reader), (a_this_reader_record, .inl (k_this_reader_record, 16, .inl r_this_reader_record)), (a_p1, oX6 a_p1_bytes a_p1_keys), (a_p1_bytes, .inl (k_p1_bytes, 2048, .inl r_p1_bytes)), (a_p1_keys, .inl (k_p1_keys, 8, .inl r_p1_keys))] H := hP
      have hD : va_D A [(a_this, oX0 a_this_reader a_this_printer o_this_14), (a_this_printer, oX2 a_this_printer_line o_this_printer), (a_this_printer_line, .inl (k_this_printer_line, 32, .inl r_this_printer_line)), (a_this_reader, oX4 a_this_reader_making a_this_reader_queue a_this_reader_lengths a_this_reader_record o_this_reader), (a_this_reader_record, .inl (k_this_reader_record, 16, .inl r_this_reader_record)), (a_p1, oX6 a_p1_bytes a_p1_keys), (a_p1_bytes, .inl (k_p1_bytes, 2048, .inl r_p1_bytes)), (a_p1_keys, .inl (k_p1_keys, 8, .inl r_p1_keys))] := hD
      rw [hw] at hF
      try dsimp only at hF
      exact hQ (o_this_14, o_this_printer, r_this_printer_line, o_this_reader, r_p1_bytes) _ _ _ _ dX0_moveByte_40 hF.symm hP hD hS
  · have c_2 := (bI_ne0 _).mp c_2
    rw [if_pos c_2] at hF
    refine lv_aload_n hx hb dX0_moveByte_7 rfl (lv_at hl 0 rfl) ?_
    refine lv_bipush (v := 16) hx hb dX0_moveByte_8 (by decide) ?_
    refine q_Vi (rest := []) (c_X0_flagged l D a_this a_this_reader a_this_printer o_this 16) cv_X0_flagged hx hb hml hown ht hN hK hA hP hD hS hl.1 (km_X0_114) ⟨Nat.le_of_ble_eq_true rfl, Nat.le_of_ble_eq_true rfl⟩ rfl rfl [0] (by decide) rfl [] rfl (fun _ => rfl) (ci := 0) rfl rfl rfl rfl rfl (Nat.le_of_ble_eq_true rfl) dX0_moveByte_10 ⟨Nat.zero_le _, Nat.zero_le _⟩ (fun r u H locs hw hP hD hS => ?_)
    obtain ⟨rfl, rfl⟩ := hw
    have hP : va_P D vwCl [(a_this, oX0 a_this_reader a_this_printer o_this), (a_this_printer, oX2 a_this_printer_line o_this_printer), (a_this_printer_line, .inl (k_this_printer_line, 32, .inl r_this_printer_line)), (a_this_reader, oX4 a_this_reader_making a_this_reader_queue a_this_reader_lengths a_this_reader_record o_this_reader), (a_this_reader_record, .inl (k_this_reader_record, 16, .inl r_this_reader_record)), (a_p1, oX6 a_p1_bytes a_p1_keys), (a_p1_bytes, .inl (k_p1_bytes, 2048, .inl r_p1_bytes)), (a_p1_keys, .inl (k_p1_keys, 8, .inl r_p1_keys))] H := hP
    have hD : va_D A [(a_this, oX0 a_this_reader a_this_printer o_this), (a_this_printer, oX2 a_this_printer_line o_this_printer), (a_this_printer_line, .inl (k_this_printer_line, 32, .inl r_this_printer_line)), (a_this_reader, oX4 a_this_reader_making a_this_reader_queue a_this_reader_lengths a_this_reader_record o_this_reader), (a_this_reader_record, .inl (k_this_reader_record, 16, .inl r_this_reader_record)), (a_p1, oX6 a_p1_bytes a_p1_keys), (a_p1_bytes, .inl (k_p1_bytes, 2048, .inl r_p1_bytes)), (a_p1_keys, .inl (k_p1_keys, 8, .inl r_p1_keys))] := hD
    refine lv_if_ne (tgt := 20) hx hb dX0_moveByte_13 (by decide) (fun c_16 => ?_) (fun c_16 => ?_)
    · have c_16 := (bI_ne0 _).mp c_16
      rw [if_pos c_16] at hF
      refine lv_iconst (v := 0) hx hb dX0_moveByte_20 (by decide) ?_
      refine lv_istore_n (lv' := [(2, .int 0), (0, .ref a_this), (1, .ref a_p1)]) hx hb dX0_moveByte_21 rfl hl (by decide) rfl (fun ls hl => ?_)
      refine lv_aload_n hx hb dX0_moveByte_22 rfl (lv_at hl 1 rfl) ?_
      refine gf_X0_82 (v := .int o_this.2.2.2.2.2.2.2.2.1) hx hb hown ht hK hP 0 rfl rfl dX0_moveByte_23 ?_
      refine lv_iconst (v := 1) hx hb dX0_moveByte_26 (by decide) ?_
      refine q_Si (rest := []) (c_X6_holds l D o_this.2.2.2.2.2.2.2.2.1 1) cv_X6_holds hx hb hml hown ht hN hK hA hP hD hS hl.1 (km_X0_68) ⟨Nat.le_of_ble_eq_true rfl, Nat.le_of_ble_eq_true rfl⟩ rfl rfl [] (by decide) rfl [] rfl (fun _ => rfl) rfl rfl (Nat.le_of_ble_eq_true rfl) dX0_moveByte_27 ⟨Nat.zero_le _, Nat.zero_le _⟩ (fun r u H locs hw hP hD hS => ?_)
      obtain ⟨rfl, rfl⟩ := hw
      have hP : va_P D vwCl [(a_this, oX0 a_this_reader a_this_printer o_this), (a_this_printer, oX2 a_this_printer_line o_this_printer), (a_this_printer_line, .inl (k_this_printer_line, 32, .inl r_this_printer_line)), (a_this_reader, oX4 a_this_reader_making a_this_reader_queue a_this_reader_lengths a_this_reader_record o_this_reader), (a_this_reader_record, .inl (k_this_reader_record, 16, .inl r_this_reader_record)), (a_p1, oX6 a_p1_bytes a_p1_keys), (a_p1_bytes, .inl (k_p1_bytes, 2048, .inl r_p1_bytes)), (a_p1_keys, .inl (k_p1_keys, 8, .inl r_p1_keys))] H := hP
      have hD : va_D A [(a_this, oX0 a_this_reader a_this_printer o_this), (a_this_printer, oX2 a_this_printer_line o_this_printer), (a_this_printer_line, .inl (k_this_printer_line, 32, .inl r_this_printer_line)), (a_this_reader, oX4 a_this_reader_making a_this_reader_queue a_this_reader_lengths a_this_reader_record o_this_reader), (a_this_reader_record, .inl (k_this_reader_record, 16, .inl r_this_reader_record)), (a_p1, oX6 a_p1_bytes a_p1_keys), (a_p1_bytes, .inl (k_p1_bytes, 2048, .inl r_p1_bytes)), (a_p1_keys, .inl (k_p1_keys, 8, .inl r_p1_keys))] := hD
      refine lv_if_ne (tgt := 41) hx hb dX0_moveByte_30 (by decide) (fun c_18 => ?_) (fun c_18 => ?_)
      · have c_18 := (bI_ne0 _).mp c_18
        rw [if_pos c_18] at hF
        refine lv_iload_n hx hb dX0_moveByte_41 rfl (lv_at hl 0 rfl) ?_
        refine lv_if_eq (tgt := 69) hx hb dX0_moveByte_42 (by decide) (fun c_19 => ?_) (fun c_19 => ?_)
        · skip
          refine lv_iload_n hx hb dX0_moveByte_69 rfl (lv_at hl 0 rfl) ?_
          refine lv_if_eq (tgt := 91) hx hb dX0_moveByte_70 (by decide) (fun c_20 => ?_) (fun c_20 => ?_)
          · skip
            refine lv_aload_n hx hb dX0_moveByte_91 rfl (lv_at hl 1 rfl) ?_
            refine q_Vi (rest := []) (c_X0_isReading l D a_this a_this_reader a_this_printer o_this) cv_X0_isReading hx hb hml hown ht hN hK hA hP hD hS hl.1 (km_X0_98) ⟨Nat.le_of_ble_eq_true rfl, Nat.le_of_ble_eq_true rfl⟩ rfl rfl [0] (by decide) rfl [] rfl (fun _ => rfl) (ci := 0) rfl rfl rfl rfl rfl (Nat.le_of_ble_eq_true rfl) dX0_moveByte_92 ⟨Nat.zero_le _, Nat.zero_le _⟩ (fun r u H locs hw hP hD hS => ?_)
            obtain ⟨rfl, rfl⟩ := hw
            have hP : va_P D vwCl [(a_this, oX0 a_this_reader a_this_printer o_this), (a_this_printer, oX2 a_this_printer_line o_this_printer), (a_this_printer_line, .inl (k_this_printer_line, 32, .inl r_this_printer_line)), (a_this_reader, oX4 a_this_reader_making a_this_reader_queue a_this_reader_lengths a_this_reader_record o_this_reader), (a_this_reader_record, .inl (k_this_reader_record, 16, .inl r_this_reader_record)), (a_p1, oX6 a_p1_bytes a_p1_keys), (a_p1_bytes, .inl (k_p1_bytes, 2048, .inl r_p1_bytes)), (a_p1_keys, .inl (k_p1_keys, 8, .inl r_p1_keys))] H := hP
            have hD : va_D A [(a_this, oX0 a_this_reader a_this_printer o_this), (a_this_printer, oX2 a_this_printer_line o_this_printer), (a_this_printer_line, .inl (k_this_printer_line, 32, .inl r_this_printer_line)), (a_this_reader, oX4 a_this_reader_making a_this_reader_queue a_this_reader_lengths a_this_reader_record o_this_reader), (a_this_reader_record, .inl (k_this_reader_record, 16, .inl r_this_reader_record)), (a_p1, oX6 a_p1_bytes a_p1_keys), (a_p1_bytes, .inl (k_p1_bytes, 2048, .inl r_p1_bytes)), (a_p1_keys, .inl (k_p1_keys, 8, .inl r_p1_keys))] := hD
            refine lv_if_eq (tgt := 108) hx hb dX0_moveByte_95 (by decide) (fun c_22 => ?_) (fun c_22 => ?_)
            · have c_22 : ¬ (f_X0_isReading o_this) = true := by rw [(bI_eq0 _).mp c_22]; decide
              rw [if_neg c_22] at hF
              refine lv_aload_n hx hb dX0_moveByte_108 rfl (lv_at hl 1 rfl) ?_
              refine gf_X0_21 (v := .ref a_this_printer) hx hb hown ht hK hP 0 rfl rfl dX0_moveByte_109 ?_
              refine lv_aload_n hx hb dX0_moveByte_112 rfl (lv_at hl 2 rfl) ?_
              refine lv_aload_n hx hb dX0_moveByte_113 rfl (lv_at hl 1 rfl) ?_
              refine gf_X0_82 (v := .int o_this.2.2.2.2.2.2.2.2.1) hx hb hown ht hK hP 0 rfl rfl dX0_moveByte_114 ?_
              refine q_Vi (rest := [.ref a_this_printer]) (c_X6_byteAt l D a_p1 a_p1_bytes a_p1_keys k_p1_bytes r_p1_bytes o_this.2.2.2.2.2.2.2.2.1) cv_X6_byteAt hx hb hml hown ht hN hK hA hP hD hS hl.1 (km_X0_79) ⟨Nat.le_of_ble_eq_true rfl, Nat.le_of_ble_eq_true rfl⟩ rfl rfl [5, 6] (by decide) rfl [2] rfl (fun _ => rfl) (ci := 6) rfl rfl rfl rfl rfl (Nat.le_of_ble_eq_true rfl) dX0_moveByte_117 ⟨Nat.zero_le _, Nat.zero_le _⟩ (fun r u H locs hw hP hD hS => ?_)
              obtain ⟨rfl, rfl⟩ := hw
              have hP : va_P D vwCl [(a_this, oX0 a_this_reader a_this_printer o_this), (a_this_printer, oX2 a_this_printer_line o_this_printer), (a_this_printer_line, .inl (k_this_printer_line, 32, .inl r_this_printer_line)), (a_this_reader, oX4 a_this_reader_making a_this_reader_queue a_this_reader_lengths a_this_reader_record o_this_reader), (a_this_reader_record, .inl (k_this_reader_record, 16, .inl r_this_reader_record)), (a_p1, oX6 a_p1_bytes a_p1_keys), (a_p1_bytes, .inl (k_p1_bytes, 2048, .inl r_p1_bytes)), (a_p1_keys, .inl (k_p1_keys, 8, .inl r_p1_keys))] H := hP
              have hD : va_D A [(a_this, oX0 a_this_reader a_this_printer o_this), (a_this_printer, oX2 a_this_printer_line o_this_printer), (a_this_printer_line, .inl (k_this_printer_line, 32, .inl r_this_printer_line)), (a_this_reader, oX4 a_this_reader_making a_this_reader_queue a_this_reader_lengths a_this_reader_record o_this_reader), (a_this_reader_record, .inl (k_this_reader_record, 16, .inl r_this_reader_record)), (a_p1, oX6 a_p1_bytes a_p1_keys), (a_p1_bytes, .inl (k_p1_bytes, 2048, .inl r_p1_bytes)), (a_p1_keys, .inl (k_p1_keys, 8, .inl r_p1_keys))] := hD
              refine q_Vv (rest := []) (c_X2_print l D a_this_printer a_this_printer_line k_this_printer_line o_this_printer r_this_printer_line (f_X6_byteAt r_p1_bytes o_this.2.2.2.2.2.2.2.2.1)) cv_X2_print hx hb hml hown ht hN hK hA hP hD hS hl.1 (km_X0_131) ⟨Nat.le_of_ble_eq_true rfl, Nat.le_of_ble_eq_true rfl⟩ rfl rfl [1, 2] (by decide) rfl [0] rfl (fun _ => rfl) (ci := 2) rfl rfl rfl rfl rfl (Nat.le_of_ble_eq_true rfl) dX0_moveByte_120 ⟨Nat.zero_le _, Nat.zero_le _⟩ (fun u H locs hw hP hD hS => ?_)
              obtain ⟨o_this_printer_24, r_this_printer_line_24⟩ := u
              have hP : va_P D vwCl [(a_this, oX0 a_this_reader a_this_printer o_this), (a_this_printer, oX2 a_this_printer_line o_this_printer_24), (a_this_printer_line, .inl (k_this_printer_line, 32, .inl r_this_printer_line_24)), (a_this_reader, oX4 a_this_reader_making a_this_reader_queue a_this_reader_lengths a_this_reader_record o_this_reader), (a_this_reader_record, .inl (k_this_reader_record, 16, .inl r_this_reader_record)), (a_p1, oX6 a_p1_bytes a_p1_keys), (a_p1_bytes, .inl (k_p1_bytes, 2048, .inl r_p1_bytes)), (a_p1_keys, .inl (k_p1_keys, 8, .inl r_p1_keys))] H := hP
              have hD : va_D A [(a_this, oX0 a_this_reader a_this_printer o_this), (a_this_printer, oX2 a_this_printer_line o_this_printer_24), (a_this_printer_line, .inl (k_this_printer_line, 32, .inl r_this_printer_line_24)), (a_this_reader, oX4 a_this_reader_making a_this_reader_queue a_this_reader_lengths a_this_reader_record o_this_reader), (a_this_reader_record, .inl (k_this_reader_record, 16, .inl r_this_reader_record)), (a_p1, oX6 a_p1_bytes a_p1_keys), (a_p1_bytes, .inl (k_p1_bytes, 2048, .inl r_p1_bytes)), (a_p1_keys, .inl (k_p1_keys, 8, .inl r_p1_keys))] := hD
              rw [hw] at hF
              try dsimp only at hF
              refine lv_aload_n hx hb dX0_moveByte_123 rfl (lv_at hl 1 rfl) ?_
              refine lv_dup hx hb dX0_moveByte_124 rfl ?_
              refine gf_X0_82 (v := .int o_this.2.2.2.2.2.2.2.2.1) hx hb hown ht hK hP 0 rfl rfl dX0_moveByte_125 ?_
              refine lv_iconst (v := 1) hx hb dX0_moveByte_128 (by decide) ?_
              refine lv_iadd hx hb dX0_moveByte_129 ?_
              refine pf_X0_82 (x := (o_this.2.2.2.2.2.2.2.2.1 + (1 : Int32))) hx hb hown ht hK hP hD hS 0 rfl (Nat.le_of_ble_eq_true rfl) dX0_moveByte_130 (fun H locs hP hD hS => ?_)
              have hP : va_P D vwCl [(a_this, oX0 a_this_reader a_this_printer (o_this.1, o_this.2.1, o_this.2.2.1, o_this.2.2.2.1, o_this.2.2.2.2.1, o_this.2.2.2.2.2.1, o_this.2.2.2.2.2.2.1, o_this.2.2.2.2.2.2.2.1, (o_this.2.2.2.2.2.2.2.2.1 + (1 : Int32)), o_this.2.2.2.2.2.2.2.2.2.1, o_this.2.2.2.2.2.2.2.2.2.2.1, o_this.2.2.2.2.2.2.2.2.2.2.2.1, o_this.2.2.2.2.2.2.2.2.2.2.2.2)), (a_this_printer, oX2 a_this_printer_line o_this_printer_24), (a_this_printer_line, .inl (k_this_printer_line, 32, .inl r_this_printer_line_24)), (a_this_reader, oX4 a_this_reader_making a_this_reader_queue a_this_reader_lengths a_this_reader_record o_this_reader), (a_this_reader_record, .inl (k_this_reader_record, 16, .inl r_this_reader_record)), (a_p1, oX6 a_p1_bytes a_p1_keys), (a_p1_bytes, .inl (k_p1_bytes, 2048, .inl r_p1_bytes)), (a_p1_keys, .inl (k_p1_keys, 8, .inl r_p1_keys))] H := hP
              have hD : va_D A [(a_this, oX0 a_this_reader a_this_printer (o_this.1, o_this.2.1, o_this.2.2.1, o_this.2.2.2.1, o_this.2.2.2.2.1, o_this.2.2.2.2.2.1, o_this.2.2.2.2.2.2.1, o_this.2.2.2.2.2.2.2.1, (o_this.2.2.2.2.2.2.2.2.1 + (1 : Int32)), o_this.2.2.2.2.2.2.2.2.2.1, o_this.2.2.2.2.2.2.2.2.2.2.1, o_this.2.2.2.2.2.2.2.2.2.2.2.1, o_this.2.2.2.2.2.2.2.2.2.2.2.2)), (a_this_printer, oX2 a_this_printer_line o_this_printer_24), (a_this_printer_line, .inl (k_this_printer_line, 32, .inl r_this_printer_line_24)), (a_this_reader, oX4 a_this_reader_making a_this_reader_queue a_this_reader_lengths a_this_reader_record o_this_reader), (a_this_reader_record, .inl (k_this_reader_record, 16, .inl r_this_reader_record)), (a_p1, oX6 a_p1_bytes a_p1_keys), (a_p1_bytes, .inl (k_p1_bytes, 2048, .inl r_p1_bytes)), (a_p1_keys, .inl (k_p1_keys, 8, .inl r_p1_keys))] := hD
              refine lv_aload_n hx hb dX0_moveByte_133 rfl (lv_at hl 1 rfl) ?_
              refine lv_dup hx hb dX0_moveByte_134 rfl ?_
              refine gf_X0_72 (v := .int o_this.2.2.2.2.2.2.2.2.2.2.1) hx hb hown ht hK hP 0 rfl rfl dX0_moveByte_135 ?_
              refine lv_iconst (v := 1) hx hb dX0_moveByte_138 (by decide) ?_
              refine lv_isub hx hb dX0_moveByte_139 ?_
              refine pf_X0_72 (x := (o_this.2.2.2.2.2.2.2.2.2.2.1 - (1 : Int32))) hx hb hown ht hK hP hD hS 0 rfl (Nat.le_of_ble_eq_true rfl) dX0_moveByte_140 (fun H locs hP hD hS => ?_)
              have hP : va_P D vwCl [(a_this, oX0 a_this_reader a_this_printer (o_this.1, o_this.2.1, o_this.2.2.1, o_this.2.2.2.1, o_this.2.2.2.2.1, o_this.2.2.2.2.2.1, o_this.2.2.2.2.2.2.1, o_this.2.2.2.2.2.2.2.1, (o_this.2.2.2.2.2.2.2.2.1 + (1 : Int32)), o_this.2.2.2.2.2.2.2.2.2.1, (o_this.2.2.2.2.2.2.2.2.2.2.1 - (1 : Int32)), o_this.2.2.2.2.2.2.2.2.2.2.2.1, o_this.2.2.2.2.2.2.2.2.2.2.2.2)), (a_this_printer, oX2 a_this_printer_line o_this_printer_24), (a_this_printer_line, .inl (k_this_printer_line, 32, .inl r_this_printer_line_24)), (a_this_reader, oX4 a_this_reader_making a_this_reader_queue a_this_reader_lengths a_this_reader_record o_this_reader), (a_this_reader_record, .inl (k_this_reader_record, 16, .inl r_this_reader_record)), (a_p1, oX6 a_p1_bytes a_p1_keys), (a_p1_bytes, .inl (k_p1_bytes, 2048, .inl r_p1_bytes)), (a_p1_keys, .inl (k_p1_keys, 8, .inl r_p1_keys))] H := hP
              have hD : va_D A [(a_this, oX0 a_this_reader a_this_printer (o_this.1, o_this.2.1, o_this.2.2.1, o_this.2.2.2.1, o_this.2.2.2.2.1, o_this.2.2.2.2.2.1, o_this.2.2.2.2.2.2.1, o_this.2.2.2.2.2.2.2.1, (o_this.2.2.2.2.2.2.2.2.1 + (1 : Int32)), o_this.2.2.2.2.2.2.2.2.2.1, (o_this.2.2.2.2.2.2.2.2.2.2.1 - (1 : Int32)), o_this.2.2.2.2.2.2.2.2.2.2.2.1, o_this.2.2.2.2.2.2.2.2.2.2.2.2)), (a_this_printer, oX2 a_this_printer_line o_this_printer_24), (a_this_printer_line, .inl (k_this_printer_line, 32, .inl r_this_printer_line_24)), (a_this_reader, oX4 a_this_reader_making a_this_reader_queue a_this_reader_lengths a_this_reader_record o_this_reader), (a_this_reader_record, .inl (k_this_reader_record, 16, .inl r_this_reader_record)), (a_p1, oX6 a_p1_bytes a_p1_keys), (a_p1_bytes, .inl (k_p1_bytes, 2048, .inl r_p1_bytes)), (a_p1_keys, .inl (k_p1_keys, 8, .inl r_p1_keys))] := hD
              refine lv_aload_n hx hb dX0_moveByte_143 rfl (lv_at hl 1 rfl) ?_
              refine q_Vv (rest := []) (c_X0_goOn l D a_this a_this_reader a_this_printer a_this_reader_making a_this_reader_queue a_this_reader_lengths a_this_reader_record (o_this.1, o_this.2.1, o_this.2.2.1, o_this.2.2.2.1, o_this.2.2.2.2.1, o_this.2.2.2.2.2.1, o_this.2.2.2.2.2.2.1, o_this.2.2.2.2.2.2.2.1, (o_this.2.2.2.2.2.2.2.2.1 + (1 : Int32)), o_this.2.2.2.2.2.2.2.2.2.1, (o_this.2.2.2.2.2.2.2.2.2.2.1 - (1 : Int32)), o_this.2.2.2.2.2.2.2.2.2.2.2.1, o_this.2.2.2.2.2.2.2.2.2.2.2.2) o_this_reader) cv_X0_goOn hx hb hml hown ht hN hK hA hP hD hS hl.1 (km_X0_135) ⟨Nat.le_of_ble_eq_true rfl, Nat.le_of_ble_eq_true rfl⟩ rfl rfl [0, 3] (by decide) rfl [] rfl (fun _ => rfl) (ci := 0) rfl rfl rfl rfl rfl (Nat.le_of_ble_eq_true rfl) dX0_moveByte_144 ⟨Nat.zero_le _, Nat.zero_le _⟩ (fun u H locs hw hP hD hS => ?_)
              obtain ⟨o_this_25, rfl⟩ : ∃ z, z = u := ⟨_, rfl⟩
              have hP : va_P D vwCl [(a_this, oX0 a_this_reader a_this_printer o_this_25), (a_this_printer, oX2 a_this_printer_line o_this_printer_24), (a_this_printer_line, .inl (k_this_printer_line, 32, .inl r_this_printer_line_24)), (a_this_reader, oX4 a_this_reader_making a_this_reader_queue a_this_reader_lengths a_this_reader_record o_this_reader), (a_this_reader_record, .inl (k_this_reader_record, 16, .inl r_this_reader_record)), (a_p1, oX6 a_p1_bytes a_p1_keys), (a_p1_bytes, .inl (k_p1_bytes, 2048, .inl r_p1_bytes)), (a_p1_keys, .inl (k_p1_keys, 8, .inl r_p1_keys))] H := hP
              have hD : va_D A [(a_this, oX0 a_this_reader a_this_printer o_this_25), (a_this_printer, oX2 a_this_printer_line o_this_printer_24), (a_this_printer_line, .inl (k_this_printer_line, 32, .inl r_this_printer_line_24)), (a_this_reader, oX4 a_this_reader_making a_this_reader_queue a_this_reader_lengths a_this_reader_record o_this_reader), (a_this_reader_record, .inl (k_this_reader_record, 16, .inl r_this_reader_record)), (a_p1, oX6 a_p1_bytes a_p1_keys), (a_p1_bytes, .inl (k_p1_bytes, 2048, .inl r_p1_bytes)), (a_p1_keys, .inl (k_p1_keys, 8, .inl r_p1_keys))] := hD
              rw [hw] at hF
              try dsimp only at hF
              exact hQ (o_this_25, o_this_printer_24, r_this_printer_line_24, o_this_reader, r_p1_bytes) _ _ _ _ dX0_moveByte_147 hF.symm hP hD hS
            · have c_22 := (bI_ne0 _).mp c_22
              rw [if_pos c_22] at hF
              refine lv_aload_n hx hb dX0_moveByte_98 rfl (lv_at hl 1 rfl) ?_
              refine gf_X0_12 (v := .ref a_this_reader) hx hb hown ht hK hP 0 rfl rfl dX0_moveByte_99 ?_
              refine q_Vv (rest := []) (c_X4_skipByte l D a_this_reader a_this_reader_making a_this_reader_queue a_this_reader_lengths a_this_reader_record o_this_reader) cv_X4_skipByte hx hb hml hown ht hN hK hA hP hD hS hl.1 (km_X0_128) ⟨Nat.le_of_ble_eq_true rfl, Nat.le_of_ble_eq_true rfl⟩ rfl rfl [3] (by decide) rfl [] rfl (fun _ => rfl) (ci := 4) rfl rfl rfl rfl rfl (Nat.le_of_ble_eq_true rfl) dX0_moveByte_102 ⟨Nat.zero_le _, Nat.zero_le _⟩ (fun u H locs hw hP hD hS => ?_)
              obtain ⟨o_this_reader_26, rfl⟩ : ∃ z, z = u := ⟨_, rfl⟩
              have hP : va_P D vwCl [(a_this, oX0 a_this_reader a_this_printer o_this), (a_this_printer, oX2 a_this_printer_line o_this_printer), (a_this_printer_line, .inl (k_this_printer_line, 32, .inl r_this_printer_line)), (a_this_reader, oX4 a_this_reader_making a_this_reader_queue a_this_reader_lengths a_this_reader_record o_this_reader_26), (a_this_reader_record, .inl (k_this_reader_record, 16, .inl r_this_reader_record)), (a_p1, oX6 a_p1_bytes a_p1_keys), (a_p1_bytes, .inl (k_p1_bytes, 2048, .inl r_p1_bytes)), (a_p1_keys, .inl (k_p1_keys, 8, .inl r_p1_keys))] H := hP
              have hD : va_D A [(a_this, oX0 a_this_reader a_this_printer o_this), (a_this_printer, oX2 a_this_printer_line o_this_printer), (a_this_printer_line, .inl (k_this_printer_line, 32, .inl r_this_printer_line)), (a_this_reader, oX4 a_this_reader_making a_this_reader_queue a_this_reader_lengths a_this_reader_record o_this_reader_26), (a_this_reader_record, .inl (k_this_reader_record, 16, .inl r_this_reader_record)), (a_p1, oX6 a_p1_bytes a_p1_keys), (a_p1_bytes, .inl (k_p1_bytes, 2048, .inl r_p1_bytes)), (a_p1_keys, .inl (k_p1_keys, 8, .inl r_p1_keys))] := hD
              rw [hw] at hF
              try dsimp only at hF
              refine lv_goto (tgt := 123) hx hb dX0_moveByte_105 (by decide) ?_
              refine lv_aload_n hx hb dX0_moveByte_123 rfl (lv_at hl 1 rfl) ?_
              refine lv_dup hx hb dX0_moveByte_124 rfl ?_
              refine gf_X0_82 (v := .int o_this.2.2.2.2.2.2.2.2.1) hx hb hown ht hK hP 0 rfl rfl dX0_moveByte_125 ?_
              refine lv_iconst (v := 1) hx hb dX0_moveByte_128 (by decide) ?_
              refine lv_iadd hx hb dX0_moveByte_129 ?_
              refine pf_X0_82 (x := (o_this.2.2.2.2.2.2.2.2.1 + (1 : Int32))) hx hb hown ht hK hP hD hS 0 rfl (Nat.le_of_ble_eq_true rfl) dX0_moveByte_130 (fun H locs hP hD hS => ?_)
              have hP : va_P D vwCl [(a_this, oX0 a_this_reader a_this_printer (o_this.1, o_this.2.1, o_this.2.2.1, o_this.2.2.2.1, o_this.2.2.2.2.1, o_this.2.2.2.2.2.1, o_this.2.2.2.2.2.2.1, o_this.2.2.2.2.2.2.2.1, (o_this.2.2.2.2.2.2.2.2.1 + (1 : Int32)), o_this.2.2.2.2.2.2.2.2.2.1, o_this.2.2.2.2.2.2.2.2.2.2.1, o_this.2.2.2.2.2.2.2.2.2.2.2.1, o_this.2.2.2.2.2.2.2.2.2.2.2.2)), (a_this_printer, oX2 a_this_printer_line o_this_printer), (a_this_printer_line, .inl (k_this_printer_line, 32, .inl r_this_printer_line)), (a_this_reader, oX4 a_this_reader_making a_this_reader_queue a_this_reader_lengths a_this_reader_record o_this_reader_26), (a_this_reader_record, .inl (k_this_reader_record, 16, .inl r_this_reader_record)), (a_p1, oX6 a_p1_bytes a_p1_keys), (a_p1_bytes, .inl (k_p1_bytes, 2048, .inl r_p1_bytes)), (a_p1_keys, .inl (k_p1_keys, 8, .inl r_p1_keys))] H := hP
              have hD : va_D A [(a_this, oX0 a_this_reader a_this_printer (o_this.1, o_this.2.1, o_this.2.2.1, o_this.2.2.2.1, o_this.2.2.2.2.1, o_this.2.2.2.2.2.1, o_this.2.2.2.2.2.2.1, o_this.2.2.2.2.2.2.2.1, (o_this.2.2.2.2.2.2.2.2.1 + (1 : Int32)), o_this.2.2.2.2.2.2.2.2.2.1, o_this.2.2.2.2.2.2.2.2.2.2.1, o_this.2.2.2.2.2.2.2.2.2.2.2.1, o_this.2.2.2.2.2.2.2.2.2.2.2.2)), (a_this_printer, oX2 a_this_printer_line o_this_printer), (a_this_printer_line, .inl (k_this_printer_line, 32, .inl r_this_printer_line)), (a_this_reader, oX4 a_this_reader_making a_this_reader_queue a_this_reader_lengths a_this_reader_record o_this_reader_26), (a_this_reader_record, .inl (k_this_reader_record, 16, .inl r_this_reader_record)), (a_p1, oX6 a_p1_bytes a_p1_keys), (a_p1_bytes, .inl (k_p1_bytes, 2048, .inl r_p1_bytes)), (a_p1_keys, .inl (k_p1_keys, 8, .inl r_p1_keys))] := hD
              refine lv_aload_n hx hb dX0_moveByte_133 rfl (lv_at hl 1 rfl) ?_
              refine lv_dup hx hb dX0_moveByte_134 rfl ?_
              refine gf_X0_72 (v := .int o_this.2.2.2.2.2.2.2.2.2.2.1) hx hb hown ht hK hP 0 rfl rfl dX0_moveByte_135 ?_
              refine lv_iconst (v := 1) hx hb dX0_moveByte_138 (by decide) ?_
              refine lv_isub hx hb dX0_moveByte_139 ?_
              refine pf_X0_72 (x := (o_this.2.2.2.2.2.2.2.2.2.2.1 - (1 : Int32))) hx hb hown ht hK hP hD hS 0 rfl (Nat.le_of_ble_eq_true rfl) dX0_moveByte_140 (fun H locs hP hD hS => ?_)
              have hP : va_P D vwCl [(a_this, oX0 a_this_reader a_this_printer (o_this.1, o_this.2.1, o_this.2.2.1, o_this.2.2.2.1, o_this.2.2.2.2.1, o_this.2.2.2.2.2.1, o_this.2.2.2.2.2.2.1, o_this.2.2.2.2.2.2.2.1, (o_this.2.2.2.2.2.2.2.2.1 + (1 : Int32)), o_this.2.2.2.2.2.2.2.2.2.1, (o_this.2.2.2.2.2.2.2.2.2.2.1 - (1 : Int32)), o_this.2.2.2.2.2.2.2.2.2.2.2.1, o_this.2.2.2.2.2.2.2.2.2.2.2.2)), (a_this_printer, oX2 a_this_printer_line o_this_printer), (a_this_printer_line, .inl (k_this_printer_line, 32, .inl r_this_printer_line)), (a_this_reader, oX4 a_this_reader_making a_this_reader_queue a_this_reader_lengths a_this_reader_record o_this_reader_26), (a_this_reader_record, .inl (k_this_reader_record, 16, .inl r_this_reader_record)), (a_p1, oX6 a_p1_bytes a_p1_keys), (a_p1_bytes, .inl (k_p1_bytes, 2048, .inl r_p1_bytes)), (a_p1_keys, .inl (k_p1_keys, 8, .inl r_p1_keys))] H := hP
              have hD : va_D A [(a_this, oX0 a_this_reader a_this_printer (o_this.1, o_this.2.1, o_this.2.2.1, o_this.2.2.2.1, o_this.2.2.2.2.1, o_this.2.2.2.2.2.1, o_this.2.2.2.2.2.2.1, o_this.2.2.2.2.2.2.2.1, (o_this.2.2.2.2.2.2.2.2.1 + (1 : Int32)), o_this.2.2.2.2.2.2.2.2.2.1, (o_this.2.2.2.2.2.2.2.2.2.2.1 - (1 : Int32)), o_this.2.2.2.2.2.2.2.2.2.2.2.1, o_this.2.2.2.2.2.2.2.2.2.2.2.2)), (a_this_printer, oX2 a_this_printer_line o_this_printer), (a_this_printer_line, .inl (k_this_printer_line, 32, .inl r_this_printer_line)), (a_this_reader, oX4 a_this_reader_making a_this_reader_queue a_this_reader_lengths a_this_reader_record o_this_reader_26), (a_this_reader_record, .inl (k_this_reader_record, 16, .inl r_this_reader_record)), (a_p1, oX6 a_p1_bytes a_p1_keys), (a_p1_bytes, .inl (k_p1_bytes, 2048, .inl r_p1_bytes)), (a_p1_keys, .inl (k_p1_keys, 8, .inl r_p1_keys))] := hD
              refine lv_aload_n hx hb dX0_moveByte_143 rfl (lv_at hl 1 rfl) ?_
              refine q_Vv (rest := []) (c_X0_goOn l D a_this a_this_reader a_this_printer a_this_reader_making a_this_reader_queue a_this_reader_lengths a_this_reader_record (o_this.1, o_this.2.1, o_this.2.2.1, o_this.2.2.2.1, o_this.2.2.2.2.1, o_this.2.2.2.2.2.1, o_this.2.2.2.2.2.2.1, o_this.2.2.2.2.2.2.2.1, (o_this.2.2.2.2.2.2.2.2.1 + (1 : Int32)), o_this.2.2.2.2.2.2.2.2.2.1, (o_this.2.2.2.2.2.2.2.2.2.2.1 - (1 : Int32)), o_this.2.2.2.2.2.2.2.2.2.2.2.1, o_this.2.2.2.2.2.2.2.2.2.2.2.2) o_this_reader_26) cv_X0_goOn hx hb hml hown ht hN hK hA hP hD hS hl.1 (km_X0_135) ⟨Nat.le_of_ble_eq_true rfl, Nat.le_of_ble_eq_true rfl⟩ rfl rfl [0, 3] (by decide) rfl [] rfl (fun _ => rfl) (ci := 0) rfl rfl rfl rfl rfl (Nat.le_of_ble_eq_true rfl) dX0_moveByte_144 ⟨Nat.zero_le _, Nat.zero_le _⟩ (fun u H locs hw hP hD hS => ?_)
              obtain ⟨o_this_27, rfl⟩ : ∃ z, z = u := ⟨_, rfl⟩
              have hP : va_P D vwCl [(a_this, oX0 a_this_reader a_this_printer o_this_27), (a_this_printer, oX2 a_this_printer_line o_this_printer), (a_this_printer_line, .inl (k_this_printer_line, 32, .inl r_this_printer_line)), (a_this_reader, oX4 a_this_reader_making a_this_reader_queue a_this_reader_lengths a_this_reader_record o_this_reader_26), (a_this_reader_record, .inl (k_this_reader_record, 16, .inl r_this_reader_record)), (a_p1, oX6 a_p1_bytes a_p1_keys), (a_p1_bytes, .inl (k_p1_bytes, 2048, .inl r_p1_bytes)), (a_p1_keys, .inl (k_p1_keys, 8, .inl r_p1_keys))] H := hP
              have hD : va_D A [(a_this, oX0 a_this_reader a_this_printer o_this_27), (a_this_printer, oX2 a_this_printer_line o_this_printer), (a_this_printer_line, .inl (k_this_printer_line, 32, .inl r_this_printer_line)), (a_this_reader, oX4 a_this_reader_making a_this_reader_queue a_this_reader_lengths a_this_reader_record o_this_reader_26), (a_this_reader_record, .inl (k_this_reader_record, 16, .inl r_this_reader_record)), (a_p1, oX6 a_p1_bytes a_p1_keys), (a_p1_bytes, .inl (k_p1_bytes, 2048, .inl r_p1_bytes)), (a_p1_keys, .inl (k_p1_keys, 8, .inl r_p1_keys))] := hD
              rw [hw] at hF
              try dsimp only at hF
              exact hQ (o_this_27, o_this_printer, r_this_printer_line, o_this_reader_26, r_p1_bytes) _ _ _ _ dX0_moveByte_147 hF.symm hP hD hS
          · exact absurd c_20 (by decide)
        · exact absurd c_19 (by decide)
      · have c_18 : ¬ (f_X6_holds o_this.2.2.2.2.2.2.2.2.1 1) = true := by rw [(bI_eq0 _).mp c_18]; decide
        rw [if_neg c_18] at hF
        refine lv_aload_n hx hb dX0_moveByte_33 rfl (lv_at hl 1 rfl) ?_
        refine lv_iconst (v := 0) hx hb dX0_moveByte_34 (by decide) ?_
        refine lv_bipush (v := 32) hx hb dX0_moveByte_35 (by decide) ?_
        refine q_Vv (rest := []) (c_X0_end l D a_this a_this_reader a_this_printer o_this 0 32) cv_X0_end hx hb hml hown ht hN hK hA hP hD hS hl.1 (km_X0_75) ⟨Nat.le_of_ble_eq_true rfl, Nat.le_of_ble_eq_true rfl⟩ rfl rfl [0] (by decide) rfl [] rfl (fun _ => rfl) (ci := 0) rfl rfl rfl rfl rfl (Nat.le_of_ble_eq_true rfl) dX0_moveByte_37 ⟨Nat.zero_le _, Nat.zero_le _⟩ (fun u H locs hw hP hD hS => ?_)
        obtain ⟨o_this_28, rfl⟩ : ∃ z, z = u := ⟨_, rfl⟩
        have hP : va_P D vwCl [(a_this, oX0 a_this_reader a_this_printer o_this_28), (a_this_printer, oX2 a_this_printer_line o_this_printer), (a_this_printer_line, .inl (k_this_printer_line, 32, .inl r_this_printer_line)), (a_this_reader, oX4 a_this_reader_making a_this_reader_queue a_this_reader_lengths a_this_reader_record o_this_reader), (a_this_reader_record, .inl (k_this_reader_record, 16, .inl r_this_reader_record)), (a_p1, oX6 a_p1_bytes a_p1_keys), (a_p1_bytes, .inl (k_p1_bytes, 2048, .inl r_p1_bytes)), (a_p1_keys, .inl (k_p1_keys, 8, .inl r_p1_keys))] H := hP
        have hD : va_D A [(a_this, oX0 a_this_reader a_this_printer o_this_28), (a_this_printer, oX2 a_this_printer_line o_this_printer), (a_this_printer_line, .inl (k_this_printer_line, 32, .inl r_this_printer_line)), (a_this_reader, oX4 a_this_reader_making a_this_reader_queue a_this_reader_lengths a_this_reader_record o_this_reader), (a_this_reader_record, .inl (k_this_reader_record, 16, .inl r_this_reader_record)), (a_p1, oX6 a_p1_bytes a_p1_keys), (a_p1_bytes, .inl (k_p1_bytes, 2048, .inl r_p1_bytes)), (a_p1_keys, .inl (k_p1_keys, 8, .inl r_p1_keys))] := hD
        rw [hw] at hF
        try dsimp only at hF
        exact hQ (o_this_28, o_this_printer, r_this_printer_line, o_this_reader, r_p1_bytes) _ _ _ _ dX0_moveByte_40 hF.symm hP hD hS
    · have c_16 : ¬ (f_X0_flagged o_this 16) = true := by rw [(bI_eq0 _).mp c_16]; decide
      rw [if_neg c_16] at hF
      refine lv_iconst (v := 1) hx hb dX0_moveByte_16 (by decide) ?_
      refine lv_goto (tgt := 21) hx hb dX0_moveByte_17 (by decide) ?_
      refine lv_istore_n (lv' := [(2, .int 1), (0, .ref a_this), (1, .ref a_p1)]) hx hb dX0_moveByte_21 rfl hl (by decide) rfl (fun ls hl => ?_)
      refine lv_aload_n hx hb dX0_moveByte_22 rfl (lv_at hl 1 rfl) ?_
      refine gf_X0_82 (v := .int o_this.2.2.2.2.2.2.2.2.1) hx hb hown ht hK hP 0 rfl rfl dX0_moveByte_23 ?_
      refine lv_iconst (v := 1) hx hb dX0_moveByte_26 (by decide) ?_
      refine q_Si (rest := []) (c_X6_holds l D o_this.2.2.2.2.2.2.2.2.1 1) cv_X6_holds hx hb hml hown ht hN hK hA hP hD hS hl.1 (km_X0_68) ⟨Nat.le_of_ble_eq_true rfl, Nat.le_of_ble_eq_true rfl⟩ rfl rfl [] (by decide) rfl [] rfl (fun _ => rfl) rfl rfl (Nat.le_of_ble_eq_true rfl) dX0_moveByte_27 ⟨Nat.zero_le _, Nat.zero_le _⟩ (fun r u H locs hw hP hD hS => ?_)
      obtain ⟨rfl, rfl⟩ := hw
      have hP : va_P D vwCl [(a_this, oX0 a_this_reader a_this_printer o_this), (a_this_printer, oX2 a_this_printer_line o_this_printer), (a_this_printer_line, .inl (k_this_printer_line, 32, .inl r_this_printer_line)), (a_this_reader, oX4 a_this_reader_making a_this_reader_queue a_this_reader_lengths a_this_reader_record o_this_reader), (a_this_reader_record, .inl (k_this_reader_record, 16, .inl r_this_reader_record)), (a_p1, oX6 a_p1_bytes a_p1_keys), (a_p1_bytes, .inl (k_p1_bytes, 2048, .inl r_p1_bytes)), (a_p1_keys, .inl (k_p1_keys, 8, .inl r_p1_keys))] H := hP
      have hD : va_D A [(a_this, oX0 a_this_reader a_this_printer o_this), (a_this_printer, oX2 a_this_printer_line o_this_printer), (a_this_printer_line, .inl (k_this_printer_line, 32, .inl r_this_printer_line)), (a_this_reader, oX4 a_this_reader_making a_this_reader_queue a_this_reader_lengths a_this_reader_record o_this_reader), (a_this_reader_record, .inl (k_this_reader_record, 16, .inl r_this_reader_record)), (a_p1, oX6 a_p1_bytes a_p1_keys), (a_p1_bytes, .inl (k_p1_bytes, 2048, .inl r_p1_bytes)), (a_p1_keys, .inl (k_p1_keys, 8, .inl r_p1_keys))] := hD
      refine lv_if_ne (tgt := 41) hx hb dX0_moveByte_30 (by decide) (fun c_30 => ?_) (fun c_30 => ?_)
      · have c_30 := (bI_ne0 _).mp c_30
        rw [if_pos c_30] at hF
        refine lv_iload_n hx hb dX0_moveByte_41 rfl (lv_at hl 0 rfl) ?_
        refine lv_if_eq (tgt := 69) hx hb dX0_moveByte_42 (by decide) (fun c_31 => ?_) (fun c_31 => ?_)
        · exact absurd c_31 (by decide)
        · skip
          refine lv_aload_n hx hb dX0_moveByte_45 rfl (lv_at hl 2 rfl) ?_
          refine lv_aload_n hx hb dX0_moveByte_46 rfl (lv_at hl 1 rfl) ?_
          refine gf_X0_82 (v := .int o_this.2.2.2.2.2.2.2.2.1) hx hb hown ht hK hP 0 rfl rfl dX0_moveByte_47 ?_
          refine lv_iconst (v := 1) hx hb dX0_moveByte_50 (by decide) ?_
          refine lv_aload_n hx hb dX0_moveByte_51 rfl (lv_at hl 1 rfl) ?_
          refine gf_X0_42 (v := .int o_this.2.2.2.1) hx hb hown ht hK hP 0 rfl rfl dX0_moveByte_52 ?_
          refine q_Vi (rest := []) (c_X6_isOpen l D a_p1 a_p1_keys a_p1_bytes k_p1_keys r_p1_keys o_this.2.2.2.2.2.2.2.2.1 1 o_this.2.2.2.1) cv_X6_isOpen hx hb hml hown ht hN hK hA hP hD hS hl.1 (km_X0_117) ⟨Nat.le_of_ble_eq_true rfl, Nat.le_of_ble_eq_true rfl⟩ rfl rfl [5, 7] (by decide) rfl [3] rfl (fun _ => rfl) (ci := 6) rfl rfl rfl rfl rfl (Nat.le_of_ble_eq_true rfl) dX0_moveByte_55 ⟨Nat.zero_le _, Nat.zero_le _⟩ (fun r u H locs hw hP hD hS => ?_)
          obtain ⟨rfl, rfl⟩ := hw
          have hP : va_P D vwCl [(a_this, oX0 a_this_reader a_this_printer o_this), (a_this_printer, oX2 a_this_printer_line o_this_printer), (a_this_printer_line, .inl (k_this_printer_line, 32, .inl r_this_printer_line)), (a_this_reader, oX4 a_this_reader_making a_this_reader_queue a_this_reader_lengths a_this_reader_record o_this_reader), (a_this_reader_record, .inl (k_this_reader_record, 16, .inl r_this_reader_record)), (a_p1, oX6 a_p1_bytes a_p1_keys), (a_p1_bytes, .inl (k_p1_bytes, 2048, .inl r_p1_bytes)), (a_p1_keys, .inl (k_p1_keys, 8, .inl r_p1_keys))] H := hP
          have hD : va_D A [(a_this, oX0 a_this_reader a_this_printer o_this), (a_this_printer, oX2 a_this_printer_line o_this_printer), (a_this_printer_line, .inl (k_this_printer_line, 32, .inl r_this_printer_line)), (a_this_reader, oX4 a_this_reader_making a_this_reader_queue a_this_reader_lengths a_this_reader_record o_this_reader), (a_this_reader_record, .inl (k_this_reader_record, 16, .inl r_this_reader_record)), (a_p1, oX6 a_p1_bytes a_p1_keys), (a_p1_bytes, .inl (k_p1_bytes, 2048, .inl r_p1_bytes)), (a_p1_keys, .inl (k_p1_keys, 8, .inl r_p1_keys))] := hD
          refine lv_if_ne (tgt := 69) hx hb dX0_moveByte_58 (by decide) (fun c_33 => ?_) (fun c_33 => ?_)
          · have c_33 := (bI_ne0 _).mp c_33
            rw [if_pos c_33] at hF
            refine lv_iload_n hx hb dX0_moveByte_69 rfl (lv_at hl 0 rfl) ?_
            refine lv_if_eq (tgt := 91) hx hb dX0_moveByte_70 (by decide) (fun c_34 => ?_) (fun c_34 => ?_)
            · exact absurd c_34 (by decide)
            · skip
              refine lv_aload_n hx hb dX0_moveByte_73 rfl (lv_at hl 2 rfl) ?_
              refine lv_aload_n hx hb dX0_moveByte_74 rfl (lv_at hl 1 rfl) ?_
              refine gf_X0_82 (v := .int o_this.2.2.2.2.2.2.2.2.1) hx hb hown ht hK hP 0 rfl rfl dX0_moveByte_75 ?_
              refine lv_aload_n hx hb dX0_moveByte_78 rfl (lv_at hl 1 rfl) ?_
              refine gf_X0_12 (v := .ref a_this_reader) hx hb hown ht hK hP 0 rfl rfl dX0_moveByte_79 ?_
              refine q_Vi (rest := [.int o_this.2.2.2.2.2.2.2.2.1, .ref a_p1]) (c_X4_nextByte l D a_this_reader a_this_reader_record a_this_reader_making a_this_reader_queue a_this_reader_lengths k_this_reader_record o_this_reader r_this_reader_record) cv_X4_nextByte hx hb hml hown ht hN hK hA hP hD hS hl.1 (km_X0_121) ⟨Nat.le_of_ble_eq_true rfl, Nat.le_of_ble_eq_true rfl⟩ rfl rfl [3, 4] (by decide) rfl [1] rfl (fun _ => rfl) (ci := 4) rfl rfl rfl rfl rfl (Nat.le_of_ble_eq_true rfl) dX0_moveByte_82 ⟨Nat.zero_le _, Nat.zero_le _⟩ (fun r u H locs hw hP hD hS => ?_)
              obtain ⟨v_35, o_this_reader_35⟩ := u
              obtain ⟨hw, hr⟩ := hw
              have hr : v_35 = r := hr.symm
              subst hr
              have hP : va_P D vwCl [(a_this, oX0 a_this_reader a_this_printer o_this), (a_this_printer, oX2 a_this_printer_line o_this_printer), (a_this_printer_line, .inl (k_this_printer_line, 32, .inl r_this_printer_line)), (a_this_reader, oX4 a_this_reader_making a_this_reader_queue a_this_reader_lengths a_this_reader_record o_this_reader_35), (a_this_reader_record, .inl (k_this_reader_record, 16, .inl r_this_reader_record)), (a_p1, oX6 a_p1_bytes a_p1_keys), (a_p1_bytes, .inl (k_p1_bytes, 2048, .inl r_p1_bytes)), (a_p1_keys, .inl (k_p1_keys, 8, .inl r_p1_keys))] H := hP
              have hD : va_D A [(a_this, oX0 a_this_reader a_this_printer o_this), (a_this_printer, oX2 a_this_printer_line o_this_printer), (a_this_printer_line, .inl (k_this_printer_line, 32, .inl r_this_printer_line)), (a_this_reader, oX4 a_this_reader_making a_this_reader_queue a_this_reader_lengths a_this_reader_record o_this_reader_35), (a_this_reader_record, .inl (k_this_reader_record, 16, .inl r_this_reader_record)), (a_p1, oX6 a_p1_bytes a_p1_keys), (a_p1_bytes, .inl (k_p1_bytes, 2048, .inl r_p1_bytes)), (a_p1_keys, .inl (k_p1_keys, 8, .inl r_p1_keys))] := hD
              rw [hw] at hF
              try dsimp only at hF
              refine q_Vv (rest := []) (c_X6_putByte l D a_p1 a_p1_bytes a_p1_keys k_p1_bytes r_p1_bytes o_this.2.2.2.2.2.2.2.2.1 v_35) cv_X6_putByte hx hb hml hown ht hN hK hA hP hD hS hl.1 (km_X0_125) ⟨Nat.le_of_ble_eq_true rfl, Nat.le_of_ble_eq_true rfl⟩ rfl rfl [5, 6] (by decide) rfl [2] rfl (fun _ => rfl) (ci := 6) rfl rfl rfl rfl rfl (Nat.le_of_ble_eq_true rfl) dX0_moveByte_85 ⟨Nat.zero_le _, Nat.zero_le _⟩ (fun u H locs hw hP hD hS => ?_)
              obtain ⟨r_p1_bytes_36, rfl⟩ : ∃ z, z = u := ⟨_, rfl⟩
              have hP : va_P D vwCl [(a_this, oX0 a_this_reader a_this_printer o_this), (a_this_printer, oX2 a_this_printer_line o_this_printer), (a_this_printer_line, .inl (k_this_printer_line, 32, .inl r_this_printer_line)), (a_this_reader, oX4 a_this_reader_making a_this_reader_queue a_this_reader_lengths a_this_reader_record o_this_reader_35), (a_this_reader_record, .inl (k_this_reader_record, 16, .inl r_this_reader_record)), (a_p1, oX6 a_p1_bytes a_p1_keys), (a_p1_bytes, .inl (k_p1_bytes, 2048, .inl r_p1_bytes_36)), (a_p1_keys, .inl (k_p1_keys, 8, .inl r_p1_keys))] H := hP
              have hD : va_D A [(a_this, oX0 a_this_reader a_this_printer o_this), (a_this_printer, oX2 a_this_printer_line o_this_printer), (a_this_printer_line, .inl (k_this_printer_line, 32, .inl r_this_printer_line)), (a_this_reader, oX4 a_this_reader_making a_this_reader_queue a_this_reader_lengths a_this_reader_record o_this_reader_35), (a_this_reader_record, .inl (k_this_reader_record, 16, .inl r_this_reader_record)), (a_p1, oX6 a_p1_bytes a_p1_keys), (a_p1_bytes, .inl (k_p1_bytes, 2048, .inl r_p1_bytes_36)), (a_p1_keys, .inl (k_p1_keys, 8, .inl r_p1_keys))] := hD
              rw [hw] at hF
              try dsimp only at hF
              refine lv_goto (tgt := 123) hx hb dX0_moveByte_88 (by decide) ?_
              refine lv_aload_n hx hb dX0_moveByte_123 rfl (lv_at hl 1 rfl) ?_
              refine lv_dup hx hb dX0_moveByte_124 rfl ?_
              refine gf_X0_82 (v := .int o_this.2.2.2.2.2.2.2.2.1) hx hb hown ht hK hP 0 rfl rfl dX0_moveByte_125 ?_
              refine lv_iconst (v := 1) hx hb dX0_moveByte_128 (by decide) ?_
              refine lv_iadd hx hb dX0_moveByte_129 ?_
              refine pf_X0_82 (x := (o_this.2.2.2.2.2.2.2.2.1 + (1 : Int32))) hx hb hown ht hK hP hD hS 0 rfl (Nat.le_of_ble_eq_true rfl) dX0_moveByte_130 (fun H locs hP hD hS => ?_)
              have hP : va_P D vwCl [(a_this, oX0 a_this_reader a_this_printer (o_this.1, o_this.2.1, o_this.2.2.1, o_this.2.2.2.1, o_this.2.2.2.2.1, o_this.2.2.2.2.2.1, o_this.2.2.2.2.2.2.1, o_this.2.2.2.2.2.2.2.1, (o_this.2.2.2.2.2.2.2.2.1 + (1 : Int32)), o_this.2.2.2.2.2.2.2.2.2.1, o_this.2.2.2.2.2.2.2.2.2.2.1, o_this.2.2.2.2.2.2.2.2.2.2.2.1, o_this.2.2.2.2.2.2.2.2.2.2.2.2)), (a_this_printer, oX2 a_this_printer_line o_this_printer), (a_this_printer_line, .inl (k_this_printer_line, 32, .inl r_this_printer_line)), (a_this_reader, oX4 a_this_reader_making a_this_reader_queue a_this_reader_lengths a_this_reader_record o_this_reader_35), (a_this_reader_record, .inl (k_this_reader_record, 16, .inl r_this_reader_record)), (a_p1, oX6 a_p1_bytes a_p1_keys), (a_p1_bytes, .inl (k_p1_bytes, 2048, .inl r_p1_bytes_36)), (a_p1_keys, .inl (k_p1_keys, 8, .inl r_p1_keys))] H := hP
              have hD : va_D A [(a_this, oX0 a_this_reader a_this_printer (o_this.1, o_this.2.1, o_this.2.2.1, o_this.2.2.2.1, o_this.2.2.2.2.1, o_this.2.2.2.2.2.1, o_this.2.2.2.2.2.2.1, o_this.2.2.2.2.2.2.2.1, (o_this.2.2.2.2.2.2.2.2.1 + (1 : Int32)), o_this.2.2.2.2.2.2.2.2.2.1, o_this.2.2.2.2.2.2.2.2.2.2.1, o_this.2.2.2.2.2.2.2.2.2.2.2.1, o_this.2.2.2.2.2.2.2.2.2.2.2.2)), (a_this_printer, oX2 a_this_printer_line o_this_printer), (a_this_printer_line, .inl (k_this_printer_line, 32, .inl r_this_printer_line)), (a_this_reader, oX4 a_this_reader_making a_this_reader_queue a_this_reader_lengths a_this_reader_record o_this_reader_35), (a_this_reader_record, .inl (k_this_reader_record, 16, .inl r_this_reader_record)), (a_p1, oX6 a_p1_bytes a_p1_keys), (a_p1_bytes, .inl (k_p1_bytes, 2048, .inl r_p1_bytes_36)), (a_p1_keys, .inl (k_p1_keys, 8, .inl r_p1_keys))] := hD
              refine lv_aload_n hx hb dX0_moveByte_133 rfl (lv_at hl 1 rfl) ?_
              refine lv_dup hx hb dX0_moveByte_134 rfl ?_
              refine gf_X0_72 (v := .int o_this.2.2.2.2.2.2.2.2.2.2.1) hx hb hown ht hK hP 0 rfl rfl dX0_moveByte_135 ?_
              refine lv_iconst (v := 1) hx hb dX0_moveByte_138 (by decide) ?_
              refine lv_isub hx hb dX0_moveByte_139 ?_
              refine pf_X0_72 (x := (o_this.2.2.2.2.2.2.2.2.2.2.1 - (1 : Int32))) hx hb hown ht hK hP hD hS 0 rfl (Nat.le_of_ble_eq_true rfl) dX0_moveByte_140 (fun H locs hP hD hS => ?_)
              have hP : va_P D vwCl [(a_this, oX0 a_this_reader a_this_printer (o_this.1, o_this.2.1, o_this.2.2.1, o_this.2.2.2.1, o_this.2.2.2.2.1, o_this.2.2.2.2.2.1, o_this.2.2.2.2.2.2.1, o_this.2.2.2.2.2.2.2.1, (o_this.2.2.2.2.2.2.2.2.1 + (1 : Int32)), o_this.2.2.2.2.2.2.2.2.2.1, (o_this.2.2.2.2.2.2.2.2.2.2.1 - (1 : Int32)), o_this.2.2.2.2.2.2.2.2.2.2.2.1, o_this.2.2.2.2.2.2.2.2.2.2.2.2)), (a_this_printer, oX2 a_this_printer_line o_this_printer), (a_this_printer_line, .inl (k_this_printer_line, 32, .inl r_this_printer_line)), (a_this_reader, oX4 a_this_reader_making a_this_reader_queue a_this_reader_lengths a_this_reader_record o_this_reader_35), (a_this_reader_record, .inl (k_this_reader_record, 16, .inl r_this_reader_record)), (a_p1, oX6 a_p1_bytes a_p1_keys), (a_p1_bytes, .inl (k_p1_bytes, 2048, .inl r_p1_bytes_36)), (a_p1_keys, .inl (k_p1_keys, 8, .inl r_p1_keys))] H := hP
              have hD : va_D A [(a_this, oX0 a_this_reader a_this_printer (o_this.1, o_this.2.1, o_this.2.2.1, o_this.2.2.2.1, o_this.2.2.2.2.1, o_this.2.2.2.2.2.1, o_this.2.2.2.2.2.2.1, o_this.2.2.2.2.2.2.2.1, (o_this.2.2.2.2.2.2.2.2.1 + (1 : Int32)), o_this.2.2.2.2.2.2.2.2.2.1, (o_this.2.2.2.2.2.2.2.2.2.2.1 - (1 : Int32)), o_this.2.2.2.2.2.2.2.2.2.2.2.1, o_this.2.2.2.2.2.2.2.2.2.2.2.2)), (a_this_printer, oX2 a_this_printer_line o_this_printer), (a_this_printer_line, .inl (k_this_printer_line, 32, .inl r_this_printer_line)), (a_this_reader, oX4 a_this_reader_making a_this_reader_queue a_this_reader_lengths a_this_reader_record o_this_reader_35), (a_this_reader_record, .inl (k_this_reader_record, 16, .inl r_this_reader_record)), (a_p1, oX6 a_p1_bytes a_p1_keys), (a_p1_bytes, .inl (k_p1_bytes, 2048, .inl r_p1_bytes_36)), (a_p1_keys, .inl (k_p1_keys, 8, .inl r_p1_keys))] := hD
              refine lv_aload_n hx hb dX0_moveByte_143 rfl (lv_at hl 1 rfl) ?_
              refine q_Vv (rest := []) (c_X0_goOn l D a_this a_this_reader a_this_printer a_this_reader_making a_this_reader_queue a_this_reader_lengths a_this_reader_record (o_this.1, o_this.2.1, o_this.2.2.1, o_this.2.2.2.1, o_this.2.2.2.2.1, o_this.2.2.2.2.2.1, o_this.2.2.2.2.2.2.1, o_this.2.2.2.2.2.2.2.1, (o_this.2.2.2.2.2.2.2.2.1 + (1 : Int32)), o_this.2.2.2.2.2.2.2.2.2.1, (o_this.2.2.2.2.2.2.2.2.2.2.1 - (1 : Int32)), o_this.2.2.2.2.2.2.2.2.2.2.2.1, o_this.2.2.2.2.2.2.2.2.2.2.2.2) o_this_reader_35) cv_X0_goOn hx hb hml hown ht hN hK hA hP hD hS hl.1 (km_X0_135) ⟨Nat.le_of_ble_eq_true rfl, Nat.le_of_ble_eq_true rfl⟩ rfl rfl [0, 3] (by decide) rfl [] rfl (fun _ => rfl) (ci := 0) rfl rfl rfl rfl rfl (Nat.le_of_ble_eq_true rfl) dX0_moveByte_144 ⟨Nat.zero_le _, Nat.zero_le _⟩ (fun u H locs hw hP hD hS => ?_)
              obtain ⟨o_this_37, rfl⟩ : ∃ z, z = u := ⟨_, rfl⟩
              have hP : va_P D vwCl [(a_this, oX0 a_this_reader a_this_printer o_this_37), (a_this_printer, oX2 a_this_printer_line o_this_printer), (a_this_printer_line, .inl (k_this_printer_line, 32, .inl r_this_printer_line)), (a_this_reader, oX4 a_this_reader_making a_this_reader_queue a_this_reader_lengths a_this_reader_record o_this_reader_35), (a_this_reader_record, .inl (k_this_reader_record, 16, .inl r_this_reader_record)), (a_p1, oX6 a_p1_bytes a_p1_keys), (a_p1_bytes, .inl (k_p1_bytes, 2048, .inl r_p1_bytes_36)), (a_p1_keys, .inl (k_p1_keys, 8, .inl r_p1_keys))] H := hP
              have hD : va_D A [(a_this, oX0 a_this_reader a_this_printer o_this_37), (a_this_printer, oX2 a_this_printer_line o_this_printer), (a_this_printer_line, .inl (k_this_printer_line, 32, .inl r_this_printer_line)), (a_this_reader, oX4 a_this_reader_making a_this_reader_queue a_this_reader_lengths a_this_reader_record o_this_reader_35), (a_this_reader_record, .inl (k_this_reader_record, 16, .inl r_this_reader_record)), (a_p1, oX6 a_p1_bytes a_p1_keys), (a_p1_bytes, .inl (k_p1_bytes, 2048, .inl r_p1_bytes_36)), (a_p1_keys, .inl (k_p1_keys, 8, .inl r_p1_keys))] := hD
              rw [hw] at hF
              try dsimp only at hF
              exact hQ (o_this_37, o_this_printer, r_this_printer_line, o_this_reader_35, r_p1_bytes_36) _ _ _ _ dX0_moveByte_147 hF.symm hP hD hS
          · have c_33 : ¬ (f_X6_isOpen r_p1_keys o_this.2.2.2.2.2.2.2.2.1 1 o_this.2.2.2.1) = true := by rw [(bI_eq0 _).mp c_33]; decide
            rw [if_neg c_33] at hF
            refine lv_aload_n hx hb dX0_moveByte_61 rfl (lv_at hl 1 rfl) ?_
            refine lv_iconst (v := 0) hx hb dX0_moveByte_62 (by decide) ?_
            refine lv_bipush (v := 16) hx hb dX0_moveByte_63 (by decide) ?_
            refine q_Vv (rest := []) (c_X0_end l D a_this a_this_reader a_this_printer o_this 0 16) cv_X0_end hx hb hml hown ht hN hK hA hP hD hS hl.1 (km_X0_75) ⟨Nat.le_of_ble_eq_true rfl, Nat.le_of_ble_eq_true rfl⟩ rfl rfl [0] (by decide) rfl [] rfl (fun _ => rfl) (ci := 0) rfl rfl rfl rfl rfl (Nat.le_of_ble_eq_true rfl) dX0_moveByte_65 ⟨Nat.zero_le _, Nat.zero_le _⟩ (fun u H locs hw hP hD hS => ?_)
            obtain ⟨o_this_38, rfl⟩ : ∃ z, z = u := ⟨_, rfl⟩
            have hP : va_P D vwCl [(a_this, oX0 a_this_reader a_this_printer o_this_38), (a_this_printer, oX2 a_this_printer_line o_this_printer), (a_this_printer_line, .inl (k_this_printer_line, 32, .inl r_this_printer_line)), (a_this_reader, oX4 a_this_reader_making a_this_reader_queue a_this_reader_lengths a_this_reader_record o_this_reader), (a_this_reader_record, .inl (k_this_reader_record, 16, .inl r_this_reader_record)), (a_p1, oX6 a_p1_bytes a_p1_keys), (a_p1_bytes, .inl (k_p1_bytes, 2048, .inl r_p1_bytes)), (a_p1_keys, .inl (k_p1_keys, 8, .inl r_p1_keys))] H := hP
            have hD : va_D A [(a_this, oX0 a_this_reader a_this_printer o_this_38), (a_this_printer, oX2 a_this_printer_line o_this_printer), (a_this_printer_line, .inl (k_this_printer_line, 32, .inl r_this_printer_line)), (a_this_reader, oX4 a_this_reader_making a_this_reader_queue a_this_reader_lengths a_this_reader_record o_this_reader), (a_this_reader_record, .inl (k_this_reader_record, 16, .inl r_this_reader_record)), (a_p1, oX6 a_p1_bytes a_p1_keys), (a_p1_bytes, .inl (k_p1_bytes, 2048, .inl r_p1_bytes)), (a_p1_keys, .inl (k_p1_keys, 8, .inl r_p1_keys))] := hD
            rw [hw] at hF
            try dsimp only at hF
            exact hQ (o_this_38, o_this_printer, r_this_printer_line, o_this_reader, r_p1_bytes) _ _ _ _ dX0_moveByte_68 hF.symm hP hD hS
      · have c_30 : ¬ (f_X6_holds o_this.2.2.2.2.2.2.2.2.1 1) = true := by rw [(bI_eq0 _).mp c_30]; decide
        rw [if_neg c_30] at hF
        refine lv_aload_n hx hb dX0_moveByte_33 rfl (lv_at hl 1 rfl) ?_
        refine lv_iconst (v := 0) hx hb dX0_moveByte_34 (by decide) ?_
        refine lv_bipush (v := 32) hx hb dX0_moveByte_35 (by decide) ?_
        refine q_Vv (rest := []) (c_X0_end l D a_this a_this_reader a_this_printer o_this 0 32) cv_X0_end hx hb hml hown ht hN hK hA hP hD hS hl.1 (km_X0_75) ⟨Nat.le_of_ble_eq_true rfl, Nat.le_of_ble_eq_true rfl⟩ rfl rfl [0] (by decide) rfl [] rfl (fun _ => rfl) (ci := 0) rfl rfl rfl rfl rfl (Nat.le_of_ble_eq_true rfl) dX0_moveByte_37 ⟨Nat.zero_le _, Nat.zero_le _⟩ (fun u H locs hw hP hD hS => ?_)
        obtain ⟨o_this_39, rfl⟩ : ∃ z, z = u := ⟨_, rfl⟩
        have hP : va_P D vwCl [(a_this, oX0 a_this_reader a_this_printer o_this_39), (a_this_printer, oX2 a_this_printer_line o_this_printer), (a_this_printer_line, .inl (k_this_printer_line, 32, .inl r_this_printer_line)), (a_this_reader, oX4 a_this_reader_making a_this_reader_queue a_this_reader_lengths a_this_reader_record o_this_reader), (a_this_reader_record, .inl (k_this_reader_record, 16, .inl r_this_reader_record)), (a_p1, oX6 a_p1_bytes a_p1_keys), (a_p1_bytes, .inl (k_p1_bytes, 2048, .inl r_p1_bytes)), (a_p1_keys, .inl (k_p1_keys, 8, .inl r_p1_keys))] H := hP
        have hD : va_D A [(a_this, oX0 a_this_reader a_this_printer o_this_39), (a_this_printer, oX2 a_this_printer_line o_this_printer), (a_this_printer_line, .inl (k_this_printer_line, 32, .inl r_this_printer_line)), (a_this_reader, oX4 a_this_reader_making a_this_reader_queue a_this_reader_lengths a_this_reader_record o_this_reader), (a_this_reader_record, .inl (k_this_reader_record, 16, .inl r_this_reader_record)), (a_p1, oX6 a_p1_bytes a_p1_keys), (a_p1_bytes, .inl (k_p1_bytes, 2048, .inl r_p1_bytes)), (a_p1_keys, .inl (k_p1_keys, 8, .inl r_p1_keys))] := hD
        rw [hw] at hF
        try dsimp only at hF
        exact hQ (o_this_39, o_this_printer, r_this_printer_line, o_this_reader, r_p1_bytes) _ _ _ _ dX0_moveByte_40 hF.symm hP hD hS
theorem cv_X0_moveByte : qV yX0_moveByte cX0_moveByte 3 none 1 := ⟨kc_X0_moveByte, kt_X0_moveByte, ks_X0_moveByte, kn_X0, by decide, by decide +kernel⟩
def f_X0_putReport (o_this : Bool × Bool × Int32 × Int32 × Int32 × Bool × Bool × Bool × Int32 × Int32 × Int32 × Int32 × Int32) (r_p1_bytes : Nat → Int32) : Nat → Int32 := (match f_X6_putWord r_p1_bytes 64 ((o_this.2.2.2.1 <<< ((28 : Int32) &&& 31)) ||| o_this.2.2.2.2.1) with | r_p1_bytes_1 => (match f_X6_putByte r_p1_bytes_1 68 o_this.2.2.2.2.2.2.2.2.2.2.2.1 with | r_p1_bytes_2 => (match f_X6_putByte r_p1_bytes_2 69 o_this.2.2.2.2.2.2.2.2.2.2.2.2 with | r_p1_bytes_3 => (match f_X6_putHalf r_p1_bytes_3 70 o_this.2.2.2.2.2.2.2.2.2.2.1 with | r_p1_bytes_4 => r_p1_bytes_4))))
set_option maxHeartbeats 4000000 in
set_option maxRecDepth 100000 in
theorem c_X0_putReport (l : Launch) (D : va_G) (a_this a_p1 a_p1_bytes a_this_reader a_this_printer a_p1_keys : Nat) (k_p1_bytes : ClassId) (o_this : Bool × Bool × Int32 × Int32 × Int32 × Bool × Bool × Bool × Int32 × Int32 × Int32 × Int32 × Int32) (r_p1_bytes : Nat → Int32) : CtV l yX0_putReport cX0_putReport 2 none { frames := 2, cells := 0, slots := 0, locals := 45 } D [.ref a_this, .ref a_p1] [(a_this, oX0 a_this_reader a_this_printer o_this), (a_p1, oX6 a_p1_bytes a_p1_keys), (a_p1_bytes, .inl (k_p1_bytes, 2048, .inl r_p1_bytes))] [(k_p1_bytes, .byte)] (fun (u : Nat → Int32) => f_X0_putReport o_this r_p1_bytes = u) (fun u => [(a_this, oX0 a_this_reader a_this_printer o_this), (a_p1, oX6 a_p1_bytes a_p1_keys), (a_p1_bytes, .inl (k_p1_bytes, 2048, .inl u))]) := by
  refine CtV.of (by decide) (Nat.le_of_ble_eq_true rfl) ?_
  intro p e s m below meth c A ls Q hE hP hD hS hl hQ
  obtain ⟨hx, hb, hml, hown, ht, hN, hK, hA⟩ := hE
  have hown : s.vm.findClass RX0 = some m.cls := hown
  have hl : lv_has ls 2 [(0, .ref a_this), (1, .ref a_p1)] := hl
  obtain ⟨F, hF⟩ : ∃ F, f_X0_putReport o_this r_p1_bytes = F := ⟨_, rfl⟩
  rw [hF] at hQ
  unfold f_X0_putReport at hF
  refine lv_aload_n hx hb dX0_putReport_0 rfl (lv_at hl 1 rfl) ?_
  refine lv_bipush (v := 64) hx hb dX0_putReport_1 (by decide) ?_
  refine lv_aload_n hx hb dX0_putReport_3 rfl (lv_at hl 0 rfl) ?_
  refine gf_X0_42 (v := .int o_this.2.2.2.1) hx hb hown ht hK hP 0 rfl rfl dX0_putReport_4 ?_
  refine lv_bipush (v := 28) hx hb dX0_putReport_7 (by decide) ?_
  refine lv_ishl hx hb dX0_putReport_9 ?_
  refine lv_aload_n hx hb dX0_putReport_10 rfl (lv_at hl 0 rfl) ?_
  refine gf_X0_46 (v := .int o_this.2.2.2.2.1) hx hb hown ht hK hP 0 rfl rfl dX0_putReport_11 ?_
  refine lv_ior hx hb dX0_putReport_14 ?_
  refine q_Vv (rest := []) (c_X6_putWord l D a_p1 a_p1_bytes a_p1_keys k_p1_bytes r_p1_bytes 64 ((o_this.2.2.2.1 <<< ((28 : Int32) &&& 31)) ||| o_this.2.2.2.2.1)) cv_X6_putWord hx hb hml hown ht hN hK hA hP hD hS hl.1 (km_X0_144) ⟨Nat.le_of_ble_eq_true rfl, Nat.le_of_ble_eq_true rfl⟩ rfl rfl [1, 2] (by decide) rfl [0] rfl (fun _ => rfl) (ci := 6) rfl rfl rfl rfl rfl (Nat.le_of_ble_eq_true rfl) dX0_putReport_15 ⟨Nat.zero_le _, Nat.zero_le _⟩ (fun u H locs hw hP hD hS => ?_)
  obtain ⟨r_p1_bytes_1, rfl⟩ : ∃ z, z = u := ⟨_, rfl⟩
  have hP : va_P D vwCl [(a_this, oX0 a_this_reader a_this_printer o_this), (a_p1, oX6 a_p1_bytes a_p1_keys), (a_p1_bytes, .inl (k_p1_bytes, 2048, .inl r_p1_bytes_1))] H := hP
  have hD : va_D A [(a_this, oX0 a_this_reader a_this_printer o_this), (a_p1, oX6 a_p1_bytes a_p1_keys), (a_p1_bytes, .inl (k_p1_bytes, 2048, .inl r_p1_bytes_1))] := hD
  rw [hw] at hF
  try dsimp only at hF
  refine lv_aload_n hx hb dX0_putReport_18 rfl (lv_at hl 1 rfl) ?_
  refine lv_bipush (v := 68) hx hb dX0_putReport_19 (by decide) ?_
  refine lv_aload_n hx hb dX0_putReport_21 rfl (lv_at hl 0 rfl) ?_
  refine gf_X0_138 (v := .int o_this.2.2.2.2.2.2.2.2.2.2.2.1) hx hb hown ht hK hP 0 rfl rfl dX0_putReport_22 ?_
  refine q_Vv (rest := []) (c_X6_putByte l D a_p1 a_p1_bytes a_p1_keys k_p1_bytes r_p1_bytes_1 68 o_this.2.2.2.2.2.2.2.2.2.2.2.1) cv_X6_putByte hx hb hml hown ht hN hK hA hP hD hS hl.1 (km_X0_125) ⟨Nat.le_of_ble_eq_true rfl, Nat.le_of_ble_eq_true rfl⟩ rfl rfl [1, 2] (by decide) rfl [0] rfl (fun _ => rfl) (ci := 6) rfl rfl rfl rfl rfl (Nat.le_of_ble_eq_true rfl) dX0_putReport_25 ⟨Nat.zero_le _, Nat.zero_le _⟩ (fun u H locs hw hP hD hS => ?_)
  obtain ⟨r_p1_bytes_2, rfl⟩ : ∃ z, z = u := ⟨_, rfl⟩
  have hP : va_P D vwCl [(a_this, oX0 a_this_reader a_this_printer o_this), (a_p1, oX6 a_p1_bytes a_p1_keys), (a_p1_bytes, .inl (k_p1_bytes, 2048, .inl r_p1_bytes_2))] H := hP
  have hD : va_D A [(a_this, oX0 a_this_reader a_this_printer o_this), (a_p1, oX6 a_p1_bytes a_p1_keys), (a_p1_bytes, .inl (k_p1_bytes, 2048, .inl r_p1_bytes_2))] := hD
  rw [hw] at hF
  try dsimp only at hF
  refine lv_aload_n hx hb dX0_putReport_28 rfl (lv_at hl 1 rfl) ?_
  refine lv_bipush (v := 69) hx hb dX0_putReport_29 (by decide) ?_
  refine lv_aload_n hx hb dX0_putReport_31 rfl (lv_at hl 0 rfl) ?_
  refine gf_X0_141 (v := .int o_this.2.2.2.2.2.2.2.2.2.2.2.2) hx hb hown ht hK hP 0 rfl rfl dX0_putReport_32 ?_
  refine q_Vv (rest := []) (c_X6_putByte l D a_p1 a_p1_bytes a_p1_keys k_p1_bytes r_p1_bytes_2 69 o_this.2.2.2.2.2.2.2.2.2.2.2.2) cv_X6_putByte hx hb hml hown ht hN hK hA hP hD hS hl.1 (km_X0_125) ⟨Nat.le_of_ble_eq_true rfl, Nat.le_of_ble_eq_true rfl⟩ rfl rfl [1, 2] (by decide) rfl [0] rfl (fun _ => rfl) (ci := 6) rfl rfl rfl rfl rfl (Nat.le_of_ble_eq_true rfl) dX0_putReport_35 ⟨Nat.zero_le _, Nat.zero_le _⟩ (fun u H locs hw hP hD hS => ?_)
  obtain ⟨r_p1_bytes_3, rfl⟩ : ∃ z, z = u := ⟨_, rfl⟩
  have hP : va_P D vwCl [(a_this, oX0 a_this_reader a_this_printer o_this), (a_p1, oX6 a_p1_bytes a_p1_keys), (a_p1_bytes, .inl (k_p1_bytes, 2048, .inl r_p1_bytes_3))] H := hP
  have hD : va_D A [(a_this, oX0 a_this_reader a_this_printer o_this), (a_p1, oX6 a_p1_bytes a_p1_keys), (a_p1_bytes, .inl (k_p1_bytes, 2048, .inl r_p1_bytes_3))] := hD
  rw [hw] at hF
  try dsimp only at hF
  refine lv_aload_n hx hb dX0_putReport_38 rfl (lv_at hl 1 rfl) ?_
  refine lv_bipush (v := 70) hx hb dX0_putReport_39 (by decide) ?_
  refine lv_aload_n hx hb dX0_putReport_41 rfl (lv_at hl 0 rfl) ?_
  refine gf_X0_72 (v := .int o_this.2.2.2.2.2.2.2.2.2.2.1) hx hb hown ht hK hP 0 rfl rfl dX0_putReport_42 ?_
  refine q_Vv (rest := []) (c_X6_putHalf l D a_p1 a_p1_bytes a_p1_keys k_p1_bytes r_p1_bytes_3 70 o_this.2.2.2.2.2.2.2.2.2.2.1) cv_X6_putHalf hx hb hml hown ht hN hK hA hP hD hS hl.1 (km_X0_147) ⟨Nat.le_of_ble_eq_true rfl, Nat.le_of_ble_eq_true rfl⟩ rfl rfl [1, 2] (by decide) rfl [0] rfl (fun _ => rfl) (ci := 6) rfl rfl rfl rfl rfl (Nat.le_of_ble_eq_true rfl) dX0_putReport_45 ⟨Nat.zero_le _, Nat.zero_le _⟩ (fun u H locs hw hP hD hS => ?_)
  obtain ⟨r_p1_bytes_4, rfl⟩ : ∃ z, z = u := ⟨_, rfl⟩
  have hP : va_P D vwCl [(a_this, oX0 a_this_reader a_this_printer o_this), (a_p1, oX6 a_p1_bytes a_p1_keys), (a_p1_bytes, .inl (k_p1_bytes, 2048, .inl r_p1_bytes_4))] H := hP
  have hD : va_D A [(a_this, oX0 a_this_reader a_this_printer o_this), (a_p1, oX6 a_p1_bytes a_p1_keys), (a_p1_bytes, .inl (k_p1_bytes, 2048, .inl r_p1_bytes_4))] := hD
  rw [hw] at hF
  try dsimp only at hF
  exact hQ r_p1_bytes_4 _ _ _ _ dX0_putReport_48 hF.symm hP hD hS
theorem cv_X0_putReport : qV yX0_putReport cX0_putReport 2 none 1 := ⟨kc_X0_putReport, kt_X0_putReport, ks_X0_putReport, kn_X0, by decide, by decide +kernel⟩
def f_X0_makeMove (o_this : Bool × Bool × Int32 × Int32 × Int32 × Bool × Bool × Bool × Int32 × Int32 × Int32 × Int32 × Int32) (o_this_printer : Int32 × Int32) (r_this_printer_line : Nat → Int32) (o_this_reader : Int32 × Int32 × Int32 × Int32 × Int32) (r_this_reader_lengths : Nat → Int32) (r_this_reader_queue : Nat → Int32) (r_this_reader_record : Nat → Int32) (r_p1_bytes : Nat → Int32) (r_p1_keys : Nat → Int32) : (Bool × Bool × Int32 × Int32 × Int32 × Bool × Bool × Bool × Int32 × Int32 × Int32 × Int32 × Int32) × (Int32 × Int32) × (Nat → Int32) × (Int32 × Int32 × Int32 × Int32 × Int32) × (Nat → Int32) × (Nat → Int32) := (if o_this.2.2.2.2.2.1 = true then (match f_X0_moveByte o_this o_this_printer r_this_printer_line o_this_reader r_this_reader_record r_p1_bytes r_p1_keys with | (o_this_5, o_this_printer_5, r_this_printer_line_5, o_this_reader_5, r_p1_bytes_5) => (if o_this_5.1 = true then (o_this_5, o_this_printer_5, r_this_printer_line_5, o_this_reader_5, r_this_reader_record, r_p1_bytes_5) else (match f_X0_putReport o_this_5 r_p1_bytes_5 with | r_p1_bytes_7 => (o_this_5, o_this_printer_5, r_this_printer_line_5, o_this_reader_5, r_this_reader_record, r_p1_bytes_7)))) else (match f_X0_takeCommand o_this o_this_printer o_this_reader r_this_reader_lengths r_this_reader_queue r_this_reader_record r_p1_bytes with | (o_this_2, o_this_printer_2, o_this_reader_2, r_this_reader_record_2) => (if o_this_2.1 = true then (o_this_2, o_this_printer_2, r_this_printer_line, o_this_reader_2, r_this_reader_record_2, r_p1_bytes) else (match f_X0_putReport o_this_2 r_p1_bytes with | r_p1_bytes_4 => (o_this_2, o_this_printer_2, r_this_printer_line, o_this_reader_2, r_this_reader_record_2, r_p1_bytes_4)))))
set_option maxHeartbeats 4000000 in
set_option maxRecDepth 100000 in
theorem c_X0_makeMove (l : Launch) (D : va_G) (a_this a_this_printer a_this_printer_line a_this_reader a_this_reader_lengths a_this_reader_queue a_this_reader_record a_p1 a_p1_bytes a_p1_keys a_this_reader_making : Nat) (k_this_printer_line k_this_reader_lengths k_this_reader_queue k_this_reader_record k_p1_bytes k_p1_keys : ClassId) (o_this : Bool × Bool × Int32 × Int32 × Int32 × Bool × Bool × Bool × Int32 × Int32 × Int32 × Int32 × Int32) (o_this_printer : Int32 × Int32) (r_this_printer_line : Nat → Int32) (o_this_reader : Int32 × Int32 × Int32 × Int32 × Int32) (r_this_reader_lengths : Nat → Int32) (r_this_reader_queue : Nat → Int32) (r_this_reader_record : Nat → Int32) (r_p1_bytes : Nat → Int32) (r_p1_keys : Nat → Int32) (hfq : sb_Fit r_this_reader_queue) : CtV l yX0_makeMove cX0_makeMove 2 none { frames := 4, cells := 0, slots := 0, locals := 104 } D [.ref a_this, .ref a_p1] [(a_this, oX0 a_this_reader a_this_printer o_this), (a_this_printer, oX2 a_this_printer_line o_this_printer), (a_this_printer_line, .inl (k_this_printer_line, 32, .inl r_this_printer_line)), (a_this_reader, oX4 a_this_reader_making a_this_reader_queue a_this_reader_lengths a_this_reader_record o_this_reader), (a_this_reader_lengths, .inl (k_this_reader_lengths, 8, .inl r_this_reader_lengths)), (a_this_reader_queue, .inl (k_this_reader_queue, 128, .inl r_this_reader_queue)), (a_this_reader_record, .inl (k_this_reader_record, 16, .inl r_this_reader_record)), (a_p1, oX6 a_p1_bytes a_p1_keys), (a_p1_bytes, .inl (k_p1_bytes, 2048, .inl r_p1_bytes)), (a_p1_keys, .inl (k_p1_keys, 8, .inl r_p1_keys))] [(k_this_printer_line, .byte), (k_this_reader_lengths, .int), (k_this_reader_queue, .byte), (k_this_reader_record, .byte), (k_p1_bytes, .byte), (k_p1_keys, .int)] (fun (u : (Bool × Bool × Int32 × Int32 × Int32 × Bool × Bool × Bool × Int32 × Int32 × Int32 × Int32 × Int32) × (Int32 × Int32) × (Nat → Int32) × (Int32 × Int32 × Int32 × Int32 × Int32) × (Nat → Int32) × (Nat → Int32)) => f_X0_makeMove o_this o_this_printer r_this_printer_line o_this_reader r_this_reader_lengths r_this_reader_queue r_this_reader_record r_p1_bytes r_p1_keys = u) (fun u => [(a_this, oX0 a_this_reader a_this_printer u.1), (a_this_printer, oX2 a_this_printer_line u.2.1), (a_this_printer_line, .inl (k_this_printer_line, 32, .inl u.2.2.1)), (a_this_reader, oX4 a_this_reader_making a_this_reader_queue a_this_reader_lengths a_this_reader_record u.2.2.2.1), (a_this_reader_lengths, .inl (k_this_reader_lengths, 8, .inl r_this_reader_lengths)), (a_this_reader_queue, .inl (k_this_reader_queue, 128, .inl r_this_reader_queue)), (a_this_reader_record, .inl (k_this_reader_record, 16, .inl u.2.2.2.2.1)), (a_p1, oX6 a_p1_bytes a_p1_keys), (a_p1_bytes, .inl (k_p1_bytes, 2048, .inl u.2.2.2.2.2)), (a_p1_keys, .inl (k_p1_keys, 8, .inl r_p1_keys))]) := by
  refine CtV.of (by decide) (Nat.le_of_ble_eq_true rfl) ?_
  intro p e s m below meth c A ls Q hE hP hD hS hl hQ
  obtain ⟨hx, hb, hml, hown, ht, hN, hK, hA⟩ := hE
  have hown : s.vm.findClass RX0 = some m.cls := hown
  have hl : lv_has ls 2 [(0, .ref a_this), (1, .ref a_p1)] := hl
  obtain ⟨F, hF⟩ : ∃ F, f_X0_makeMove o_this o_this_printer r_this_printer_line o_this_reader r_this_reader_lengths r_this_reader_queue r_this_reader_record r_p1_bytes r_p1_keys = F := ⟨_, rfl⟩
  rw [hF] at hQ
  unfold f_X0_makeMove at hF
  refine lv_aload_n hx hb dX0_makeMove_0 rfl (lv_at hl 0 rfl) ?_
  refine gf_X0_49 (v := .int (bI o_this.2.2.2.2.2.1)) hx hb hown ht hK hP 0 rfl rfl dX0_makeMove_1 ?_
  refine lv_if_eq (tgt := 15) hx hb dX0_makeMove_4 (by decide) (fun c_1 => ?_) (fun c_1 => ?_)
  · have c_1 : ¬ o_this.2.2.2.2.2.1 = true := by rw [(bI_eq0 _).mp c_1]; decide
    rw [if_neg c_1] at hF
    refine lv_aload_n hx hb dX0_makeMove_15 rfl (lv_at hl 0 rfl) ?_
    refine lv_aload_n hx hb dX0_makeMove_16 rfl (lv_at hl 1 rfl) ?_
    refine q_Vv (rest := []) (c_X0_takeCommand l D a_this a_this_printer a_this_reader a_this_reader_lengths a_this_reader_queue a_this_reader_record a_p1 a_p1_bytes a_this_printer_line a_this_reader_making a_p1_keys k_this_reader_lengths k_this_reader_queue k_this_reader_record k_p1_bytes o_this o_this_printer o_this_reader r_this_reader_lengths r_this_reader_queue r_this_reader_record r_p1_bytes hfq) cv_X0_takeCommand hx hb hml hown ht hN hK hA hP hD hS hl.1 (km_X0_62) ⟨Nat.le_of_ble_eq_true rfl, Nat.le_of_ble_eq_true rfl⟩ rfl rfl [0, 1, 3, 4, 5, 6, 7, 8] (by decide) rfl [1, 2, 3, 4] rfl (fun _ => rfl) (ci := 0) rfl rfl rfl rfl rfl (Nat.le_of_ble_eq_true rfl) dX0_makeMove_17 ⟨Nat.zero_le _, Nat.zero_le _⟩ (fun u H locs hw hP hD hS => ?_)
    obtain ⟨o_this_2, o_this_printer_2, o_this_reader_2, r_this_reader_record_2⟩ := u
    have hP : va_P D vwCl [(a_this, oX0 a_this_reader a_this_printer o_this_2), (a_this_printer, oX2 a_this_printer_line o_this_printer_2), (a_this_printer_line, .inl (k_this_printer_line, 32, .inl r_this_printer_line)), (a_this_reader, oX4 a_this_reader_making a_this_reader_queue a_this_reader_lengths a_this_reader_record o_this_reader_2), (a_this_reader_lengths, .inl (k_this_reader_lengths, 8, .inl r_this_reader_lengths)), (a_this_reader_queue, .inl (k_this_reader_queue, 128, .inl r_this_reader_queue)), (a_this_reader_record, .inl (k_this_reader_record, 16, .inl r_this_reader_record_2)), (a_p1, oX6 a_p1_bytes a_p1_keys), (a_p1_bytes, .inl (k_p1_bytes, 2048, .inl r_p1_bytes)), (a_p1_keys, .inl (k_p1_keys, 8, .inl r_p1_keys))] H := hP
    have hD : va_D A [(a_this, oX0 a_this_reader a_this_printer o_this_2), (a_this_printer, oX2 a_this_printer_line o_this_printer_2), (a_this_printer_line, .inl (k_this_printer_line, 32, .inl r_this_printer_line)), (a_this_reader, oX4 a_this_reader_making a_this_reader_queue a_this_reader_lengths a_this_reader_record o_this_reader_2), (a_this_reader_lengths, .inl (k_this_reader_lengths, 8, .inl r_this_reader_lengths)), (a_this_reader_queue, .inl (k_this_reader_queue, 128, .inl r_this_reader_queue)), (a_this_reader_record, .inl (k_this_reader_record, 16, .inl r_this_reader_record_2)), (a_p1, oX6 a_p1_bytes a_p1_keys), (a_p1_bytes, .inl (k_p1_bytes, 2048, .inl r_p1_bytes)), (a_p1_keys, .inl (k_p1_keys, 8, .inl r_p1_keys))] := hD
    rw [hw] at hF
    try dsimp only at hF
    refine lv_aload_n hx hb dX0_makeMove_20 rfl (lv_at hl 0 rfl) ?_
    refine gf_X0_25 (v := .int (bI o_this_2.1)) hx hb hown ht hK hP 0 rfl rfl dX0_makeMove_21 ?_
    refine lv_if_ne (tgt := 32) hx hb dX0_makeMove_24 (by decide) (fun c_3 => ?_) (fun c_3 => ?_)
    · have c_3 := (bI_ne0 _).mp c_3
      rw [if_pos c_3] at hF
      exact hQ (o_this_2, o_this_printer_2, r_this_printer_line, o_this_reader_2, r_this_reader_record_2, r_p1_bytes) _ _ _ _ dX0_makeMove_32 hF.symm hP hD hS
    · have c_3 : ¬ o_this_2.1 = true := by rw [(bI_eq0 _).mp c_3]; decide
      rw [if_neg c_3] at hF
      refine lv_aload_n hx hb dX0_makeMove_27 rfl (lv_at hl 0 rfl) ?_
      refine lv_aload_n hx hb dX0_makeMove_28 rfl (lv_at hl 1 rfl) ?_
      refine q_Vv (rest := []) (c_X0_putReport l D a_this a_p1 a_p1_bytes a_this_reader a_this_printer a_p1_keys k_p1_bytes o_this_2 r_p1_bytes) cv_X0_putReport hx hb hml hown ht hN hK hA hP hD hS hl.1 (km_X0_65) ⟨Nat.le_of_ble_eq_true rfl, Nat.le_of_ble_eq_true rfl⟩ rfl rfl [0, 7, 8] (by decide) rfl [4] rfl (fun _ => rfl) (ci := 0) rfl rfl rfl rfl rfl (Nat.le_of_ble_eq_true rfl) dX0_makeMove_29 ⟨Nat.zero_le _, Nat.zero_le _⟩ (fun u H locs hw hP hD hS => ?_)
      obtain ⟨r_p1_bytes_4, rfl⟩ : ∃ z, z = u := ⟨_, rfl⟩
      have hP : va_P D vwCl [(a_this, oX0 a_this_reader a_this_printer o_this_2), (a_this_printer, oX2 a_this_printer_line o_this_printer_2), (a_this_printer_line, .inl (k_this_printer_line, 32, .inl r_this_printer_line)), (a_this_reader, oX4 a_this_reader_making a_this_reader_queue a_this_reader_lengths a_this_reader_record o_this_reader_2), (a_this_reader_lengths, .inl (k_this_reader_lengths, 8, .inl r_this_reader_lengths)), (a_this_reader_queue, .inl (k_this_reader_queue, 128, .inl r_this_reader_queue)), (a_this_reader_record, .inl (k_this_reader_record, 16, .inl r_this_reader_record_2)), (a_p1, oX6 a_p1_bytes a_p1_keys), (a_p1_bytes, .inl (k_p1_bytes, 2048, .inl r_p1_bytes_4)), (a_p1_keys, .inl (k_p1_keys, 8, .inl r_p1_keys))] H := hP
      have hD : va_D A [(a_this, oX0 a_this_reader a_this_printer o_this_2), (a_this_printer, oX2 a_this_printer_line o_this_printer_2), (a_this_printer_line, .inl (k_this_printer_line, 32, .inl r_this_printer_line)), (a_this_reader, oX4 a_this_reader_making a_this_reader_queue a_this_reader_lengths a_this_reader_record o_this_reader_2), (a_this_reader_lengths, .inl (k_this_reader_lengths, 8, .inl r_this_reader_lengths)), (a_this_reader_queue, .inl (k_this_reader_queue, 128, .inl r_this_reader_queue)), (a_this_reader_record, .inl (k_this_reader_record, 16, .inl r_this_reader_record_2)), (a_p1, oX6 a_p1_bytes a_p1_keys), (a_p1_bytes, .inl (k_p1_bytes, 2048, .inl r_p1_bytes_4)), (a_p1_keys, .inl (k_p1_keys, 8, .inl r_p1_keys))] := hD
      rw [hw] at hF
      try dsimp only at hF
      exact hQ (o_this_2, o_this_printer_2, r_this_printer_line, o_this_reader_2, r_this_reader_record_2, r_p1_bytes_4) _ _ _ _ dX0_makeMove_32 hF.symm hP hD hS
  · have c_1 := (bI_ne0 _).mp c_1
    rw [if_pos c_1] at hF
    refine lv_aload_n hx hb dX0_makeMove_7 rfl (lv_at hl 0 rfl) ?_
    refine lv_aload_n hx hb dX0_makeMove_8 rfl (lv_at hl 1 rfl) ?_
    refine q_Vv (rest := []) (c_X0_moveByte l D a_this a_this_printer a_this_printer_line a_this_reader a_this_reader_record a_p1 a_p1_bytes a_p1_keys a_this_reader_making a_this_reader_queue a_this_reader_lengths k_this_printer_line k_this_reader_record k_p1_bytes k_p1_keys o_this o_this_printer r_this_printer_line o_this_reader r_this_reader_record r_p1_bytes r_p1_keys) cv_X0_moveByte hx hb hml hown ht hN hK hA hP hD hS hl.1 (km_X0_58) ⟨Nat.le_of_ble_eq_true rfl, Nat.le_of_ble_eq_true rfl⟩ rfl rfl [0, 1, 2, 3, 6, 7, 8, 9] (by decide) rfl [0, 3, 4, 5] rfl (fun _ => rfl) (ci := 0) rfl rfl rfl rfl rfl (Nat.le_of_ble_eq_true rfl) dX0_makeMove_9 ⟨Nat.zero_le _, Nat.zero_le _⟩ (fun u H locs hw hP hD hS => ?_)
    obtain ⟨o_this_5, o_this_printer_5, r_this_printer_line_5, o_this_reader_5, r_p1_bytes_5⟩ := u
    have hP : va_P D vwCl [(a_this, oX0 a_this_reader a_this_printer o_this_5), (a_this_printer, oX2 a_this_printer_line o_this_printer_5), (a_this_printer_line, .inl (k_this_printer_line, 32, .inl r_this_printer_line_5)), (a_this_reader, oX4 a_this_reader_making a_this_reader_queue a_this_reader_lengths a_this_reader_record o_this_reader_5), (a_this_reader_lengths, .inl (k_this_reader_lengths, 8, .inl r_this_reader_lengths)), (a_this_reader_queue, .inl (k_this_reader_queue, 128, .inl r_this_reader_queue)), (a_this_reader_record, .inl (k_this_reader_record, 16, .inl r_this_reader_record)), (a_p1, oX6 a_p1_bytes a_p1_keys), (a_p1_bytes, .inl (k_p1_bytes, 2048, .inl r_p1_bytes_5)), (a_p1_keys, .inl (k_p1_keys, 8, .inl r_p1_keys))] H := hP
    have hD : va_D A [(a_this, oX0 a_this_reader a_this_printer o_this_5), (a_this_printer, oX2 a_this_printer_line o_this_printer_5), (a_this_printer_line, .inl (k_this_printer_line, 32, .inl r_this_printer_line_5)), (a_this_reader, oX4 a_this_reader_making a_this_reader_queue a_this_reader_lengths a_this_reader_record o_this_reader_5), (a_this_reader_lengths, .inl (k_this_reader_lengths, 8, .inl r_this_reader_lengths)), (a_this_reader_queue, .inl (k_this_reader_queue, 128, .inl r_this_reader_queue)), (a_this_reader_record, .inl (k_this_reader_record, 16, .inl r_this_reader_record)), (a_p1, oX6 a_p1_bytes a_p1_keys), (a_p1_bytes, .inl (k_p1_bytes, 2048, .inl r_p1_bytes_5)), (a_p1_keys, .inl (k_p1_keys, 8, .inl r_p1_keys))] := hD
    rw [hw] at hF
    try dsimp only at hF
    refine lv_goto (tgt := 20) hx hb dX0_makeMove_12 (by decide) ?_
    refine lv_aload_n hx hb dX0_makeMove_20 rfl (lv_at hl 0 rfl) ?_
    refine gf_X0_25 (v := .int (bI o_this_5.1)) hx hb hown ht hK hP 0 rfl rfl dX0_makeMove_21 ?_
    refine lv_if_ne (tgt := 32) hx hb dX0_makeMove_24 (by decide) (fun c_6 => ?_) (fun c_6 => ?_)
    · have c_6 := (bI_ne0 _).mp c_6
      rw [if_pos c_6] at hF
      exact hQ (o_this_5, o_this_printer_5, r_this_printer_line_5, o_this_reader_5, r_this_reader_record, r_p1_bytes_5) _ _ _ _ dX0_makeMove_32 hF.symm hP hD hS
    · have c_6 : ¬ o_this_5.1 = true := by rw [(bI_eq0 _).mp c_6]; decide
      rw [if_neg c_6] at hF
      refine lv_aload_n hx hb dX0_makeMove_27 rfl (lv_at hl 0 rfl) ?_
      refine lv_aload_n hx hb dX0_makeMove_28 rfl (lv_at hl 1 rfl) ?_
      refine q_Vv (rest := []) (c_X0_putReport l D a_this a_p1 a_p1_bytes a_this_reader a_this_printer a_p1_keys k_p1_bytes o_this_5 r_p1_bytes_5) cv_X0_putReport hx hb hml hown ht hN hK hA hP hD hS hl.1 (km_X0_65) ⟨Nat.le_of_ble_eq_true rfl, Nat.le_of_ble_eq_true rfl⟩ rfl rfl [0, 7, 8] (by decide) rfl [4] rfl (fun _ => rfl) (ci := 0) rfl rfl rfl rfl rfl (Nat.le_of_ble_eq_true rfl) dX0_makeMove_29 ⟨Nat.zero_le _, Nat.zero_le _⟩ (fun u H locs hw hP hD hS => ?_)
      obtain ⟨r_p1_bytes_7, rfl⟩ : ∃ z, z = u := ⟨_, rfl⟩
      have hP : va_P D vwCl [(a_this, oX0 a_this_reader a_this_printer o_this_5), (a_this_printer, oX2 a_this_printer_line o_this_printer_5), (a_this_printer_line, .inl (k_this_printer_line, 32, .inl r_this_printer_line_5)), (a_this_reader, oX4 a_this_reader_making a_this_reader_queue a_this_reader_lengths a_this_reader_record o_this_reader_5), (a_this_reader_lengths, .inl (k_this_reader_lengths, 8, .inl r_this_reader_lengths)), (a_this_reader_queue, .inl (k_this_reader_queue, 128, .inl r_this_reader_queue)), (a_this_reader_record, .inl (k_this_reader_record, 16, .inl r_this_reader_record)), (a_p1, oX6 a_p1_bytes a_p1_keys), (a_p1_bytes, .inl (k_p1_bytes, 2048, .inl r_p1_bytes_7)), (a_p1_keys, .inl (k_p1_keys, 8, .inl r_p1_keys))] H := hP
      have hD : va_D A [(a_this, oX0 a_this_reader a_this_printer o_this_5), (a_this_printer, oX2 a_this_printer_line o_this_printer_5), (a_this_printer_line, .inl (k_this_printer_line, 32, .inl r_this_printer_line_5)), (a_this_reader, oX4 a_this_reader_making a_this_reader_queue a_this_reader_lengths a_this_reader_record o_this_reader_5), (a_this_reader_lengths, .inl (k_this_reader_lengths, 8, .inl r_this_reader_lengths)), (a_this_reader_queue, .inl (k_this_reader_queue, 128, .inl r_this_reader_queue)), (a_this_reader_record, .inl (k_this_reader_record, 16, .inl r_this_reader_record)), (a_p1, oX6 a_p1_bytes a_p1_keys), (a_p1_bytes, .inl (k_p1_bytes, 2048, .inl r_p1_bytes_7)), (a_p1_keys, .inl (k_p1_keys, 8, .inl r_p1_keys))] := hD
      rw [hw] at hF
      try dsimp only at hF
      exact hQ (o_this_5, o_this_printer_5, r_this_printer_line_5, o_this_reader_5, r_this_reader_record, r_p1_bytes_7) _ _ _ _ dX0_makeMove_32 hF.symm hP hD hS
theorem cv_X0_makeMove : qV yX0_makeMove cX0_makeMove 2 none 1 := ⟨kc_X0_makeMove, kt_X0_makeMove, ks_X0_makeMove, kn_X0, by decide, by decide +kernel⟩
