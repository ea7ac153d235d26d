
def f_X3_storeHalfword (o_this : Bool × Int32 × Int32 × Int32 × Int32 × Int32 × Int32 × Int32 × Int32 × Int32) (r_this_registers : Nat → Int32) (o_this_status : Int32 × Int32 × Int32 × Int32) (r_this_storage_bytes : Nat → Int32) (r_this_storage_keys : Nat → Int32) : Int32 × (Nat → Int32) := (if (f_X3_storeFault o_this_status r_this_storage_keys o_this.2.2.2.2.2.2.2.2.1 2 2) = 0 then (q_let (f_X6_putHalf r_this_storage_bytes o_this.2.2.2.2.2.2.2.2.1 (f_X3_register r_this_registers o_this.2.2.2.2.2.2.1)) fun w_4 => ((f_X3_storeFault o_this_status r_this_storage_keys o_this.2.2.2.2.2.2.2.2.1 2 2), w_4)) else ((f_X3_storeFault o_this_status r_this_storage_keys o_this.2.2.2.2.2.2.2.2.1 2 2), r_this_storage_bytes))
set_option linter.all false in
set_option maxHeartbeats 4000000 in
set_option maxRecDepth 100000 in
theorem c_X3_storeHalfword (l : Launch) (D : va_G) (a_this a_this_registers a_this_status a_this_storage a_this_storage_bytes a_this_storage_keys a_this_channel a_this_first a_this_second : Nat) (k_this_registers k_this_storage_bytes k_this_storage_keys : ClassId) (o_this : Bool × Int32 × Int32 × Int32 × Int32 × Int32 × Int32 × Int32 × Int32 × Int32) (r_this_registers : Nat → Int32) (o_this_status : Int32 × Int32 × Int32 × Int32) (r_this_storage_bytes : Nat → Int32) (r_this_storage_keys : Nat → Int32) : CtI l yX3_storeHalfword cX3_storeHalfword 2 (some .int) { frames := 3, cells := 0, slots := 0, locals := 72 } D [.ref a_this] [(a_this, oX3 a_this_storage a_this_status a_this_channel a_this_registers a_this_first a_this_second o_this), (a_this_registers, .inl (k_this_registers, 16, .inl r_this_registers)), (a_this_status, oX5 o_this_status), (a_this_storage, oX6 a_this_storage_bytes a_this_storage_keys), (a_this_storage_bytes, .inl (k_this_storage_bytes, 2048, .inl r_this_storage_bytes)), (a_this_storage_keys, .inl (k_this_storage_keys, 8, .inl r_this_storage_keys))] [(k_this_registers, .int), (k_this_storage_bytes, .byte), (k_this_storage_keys, .int)] (fun (r : Int32) (u : Int32 × (Nat → Int32)) => f_X3_storeHalfword o_this r_this_registers o_this_status r_this_storage_bytes r_this_storage_keys = u ∧ r = u.1) (fun u => [(a_this, oX3 a_this_storage a_this_status a_this_channel a_this_registers a_this_first a_this_second o_this), (a_this_registers, .inl (k_this_registers, 16, .inl r_this_registers)), (a_this_status, oX5 o_this_status), (a_this_storage, oX6 a_this_storage_bytes a_this_storage_keys), (a_this_storage_bytes, .inl (k_this_storage_bytes, 2048, .inl u.2)), (a_this_storage_keys, .inl (k_this_storage_keys, 8, .inl r_this_storage_keys))]) := by
  refine CtI.of (by decide) (Nat.le_of_ble_eq_true rfl) ?_
  intro p e s m below meth c A ls Q hE hP hD hS hl hQ
  obtain ⟨hx, hb, hml, hown, ht, hN, hK, hA⟩ := hE
  have hown : s.vm.findClass RX3 = some m.cls := hown
  have hl : lv_has ls 2 [(0, .ref a_this)] := hl
  obtain ⟨F, hF⟩ : ∃ F, f_X3_storeHalfword o_this r_this_registers o_this_status r_this_storage_bytes r_this_storage_keys = F := ⟨_, rfl⟩
  rw [hF] at hQ
  unfold f_X3_storeHalfword at hF
  refine lv_aload_n hx hb dX3_storeHalfword_0 rfl (lv_at hl 0 rfl) ?_
  refine lv_aload_n hx hb dX3_storeHalfword_1 rfl (lv_at hl 0 rfl) ?_
  refine gf_X3_152 (v := .int o_this.2.2.2.2.2.2.2.2.1) hx hb hown ht hK hP 0 rfl rfl dX3_storeHalfword_2 ?_
  refine lv_iconst (v := 2) hx hb dX3_storeHalfword_5 (by decide) ?_
  refine lv_iconst (v := 2) hx hb dX3_storeHalfword_6 (by decide) ?_
  refine q_Vi (rest := []) (c_X3_storeFault l D a_this a_this_status a_this_storage a_this_storage_keys a_this_channel a_this_registers a_this_first a_this_second a_this_storage_bytes k_this_storage_keys o_this o_this_status r_this_storage_keys o_this.2.2.2.2.2.2.2.2.1 2 2) cv_X3_storeFault hx hb hml hown ht hN hK hA hP hD hS hl.1 (km_X3_264) ⟨Nat.le_of_ble_eq_true rfl, Nat.le_of_ble_eq_true rfl⟩ rfl rfl [0, 2, 3, 5] (by decide) rfl [2] rfl (fun _ => rfl) (ci := 3) rfl rfl rfl rfl rfl (Nat.le_of_ble_eq_true rfl) dX3_storeHalfword_7 ⟨Nat.zero_le _, Nat.zero_le _⟩ (fun r u H locs hw hP hD hS => ?_)
  obtain ⟨rfl, rfl⟩ := hw
  have hP : va_P D vwCl [(a_this, oX3 a_this_storage a_this_status a_this_channel a_this_registers a_this_first a_this_second o_this), (a_this_registers, .inl (k_this_registers, 16, .inl r_this_registers)), (a_this_status, oX5 o_this_status), (a_this_storage, oX6 a_this_storage_bytes a_this_storage_keys), (a_this_storage_bytes, .inl (k_this_storage_bytes, 2048, .inl r_this_storage_bytes)), (a_this_storage_keys, .inl (k_this_storage_keys, 8, .inl r_this_storage_keys))] H := hP
  have hD : va_D A [(a_this, oX3 a_this_storage a_this_status a_this_channel a_this_registers a_this_first a_this_second o_this), (a_this_registers, .inl (k_this_registers, 16, .inl r_this_registers)), (a_this_status, oX5 o_this_status), (a_this_storage, oX6 a_this_storage_bytes a_this_storage_keys), (a_this_storage_bytes, .inl (k_this_storage_bytes, 2048, .inl r_this_storage_bytes)), (a_this_storage_keys, .inl (k_this_storage_keys, 8, .inl r_this_storage_keys))] := hD
  refine lv_istore_n (lv' := [(1, .int (f_X3_storeFault o_this_status r_this_storage_keys o_this.2.2.2.2.2.2.2.2.1 2 2)), (0, .ref a_this)]) hx hb dX3_storeHalfword_10 rfl hl (by decide) rfl (fun ls hl => ?_)
  refine lv_iload_n hx hb dX3_storeHalfword_11 rfl (lv_at hl 0 rfl) ?_
  refine lv_if_ne (tgt := 34) hx hb dX3_storeHalfword_12 (by decide) (fun c_2 => ?_) (fun c_2 => ?_)
  · skip
    rw [if_neg c_2] at hF
    refine lv_iload_n hx hb dX3_storeHalfword_34 rfl (lv_at hl 0 rfl) ?_
    exact hQ (f_X3_storeFault o_this_status r_this_storage_keys o_this.2.2.2.2.2.2.2.2.1 2 2) ((f_X3_storeFault o_this_status r_this_storage_keys o_this.2.2.2.2.2.2.2.2.1 2 2), r_this_storage_bytes) _ _ _ _ dX3_storeHalfword_35 ⟨hF.symm, rfl⟩ hP hD hS
  · skip
    rw [if_pos c_2] at hF
    refine lv_aload_n hx hb dX3_storeHalfword_15 rfl (lv_at hl 1 rfl) ?_
    refine gf_X3_12 (v := .ref a_this_storage) hx hb hown ht hK hP 0 rfl rfl dX3_storeHalfword_16 ?_
    refine lv_aload_n hx hb dX3_storeHalfword_19 rfl (lv_at hl 1 rfl) ?_
    refine gf_X3_152 (v := .int o_this.2.2.2.2.2.2.2.2.1) hx hb hown ht hK hP 0 rfl rfl dX3_storeHalfword_20 ?_
    refine lv_aload_n hx hb dX3_storeHalfword_23 rfl (lv_at hl 1 rfl) ?_
    refine lv_aload_n hx hb dX3_storeHalfword_24 rfl (lv_at hl 1 rfl) ?_
    refine gf_X3_142 (v := .int o_this.2.2.2.2.2.2.1) hx hb hown ht hK hP 0 rfl rfl dX3_storeHalfword_25 ?_
    refine q_Vi (rest := [.int o_this.2.2.2.2.2.2.2.2.1, .ref a_this_storage]) (c_X3_register l D a_this a_this_registers a_this_storage a_this_status a_this_channel a_this_first a_this_second k_this_registers o_this r_this_registers o_this.2.2.2.2.2.2.1) cv_X3_register hx hb hml hown ht hN hK hA hP hD hS hl.1 (km_X3_161) ⟨Nat.le_of_ble_eq_true rfl, Nat.le_of_ble_eq_true rfl⟩ rfl rfl [0, 1] (by decide) rfl [0] rfl (fun _ => rfl) (ci := 3) rfl rfl rfl rfl rfl (Nat.le_of_ble_eq_true rfl) dX3_storeHalfword_28 ⟨Nat.zero_le _, Nat.zero_le _⟩ (fun r u H locs hw hP hD hS => ?_)
    obtain ⟨rfl, rfl⟩ := hw
    have hP : va_P D vwCl [(a_this, oX3 a_this_storage a_this_status a_this_channel a_this_registers a_this_first a_this_second o_this), (a_this_registers, .inl (k_this_registers, 16, .inl r_this_registers)), (a_this_status, oX5 o_this_status), (a_this_storage, oX6 a_this_storage_bytes a_this_storage_keys), (a_this_storage_bytes, .inl (k_this_storage_bytes, 2048, .inl r_this_storage_bytes)), (a_this_storage_keys, .inl (k_this_storage_keys, 8, .inl r_this_storage_keys))] H := hP
    have hD : va_D A [(a_this, oX3 a_this_storage a_this_status a_this_channel a_this_registers a_this_first a_this_second o_this), (a_this_registers, .inl (k_this_registers, 16, .inl r_this_registers)), (a_this_status, oX5 o_this_status), (a_this_storage, oX6 a_this_storage_bytes a_this_storage_keys), (a_this_storage_bytes, .inl (k_this_storage_bytes, 2048, .inl r_this_storage_bytes)), (a_this_storage_keys, .inl (k_this_storage_keys, 8, .inl r_this_storage_keys))] := hD
    refine q_Vv (rest := []) (c_X6_putHalf l D a_this_storage a_this_storage_bytes a_this_storage_keys k_this_storage_bytes r_this_storage_bytes o_this.2.2.2.2.2.2.2.2.1 (f_X3_register r_this_registers o_this.2.2.2.2.2.2.1)) cv_X6_putHalf hx hb hml hown ht hN hK hA hP hD hS hl.1 (km_X3_267) ⟨Nat.le_of_ble_eq_true rfl, Nat.le_of_ble_eq_true rfl⟩ rfl rfl [3, 4] (by decide) rfl [1] rfl (fun _ => rfl) (ci := 6) rfl rfl rfl rfl rfl (Nat.le_of_ble_eq_true rfl) dX3_storeHalfword_31 ⟨Nat.zero_le _, Nat.zero_le _⟩ (fun w_4 H locs hw hP hD hS => ?_)
    have hP : va_P D vwCl [(a_this, oX3 a_this_storage a_this_status a_this_channel a_this_registers a_this_first a_this_second o_this), (a_this_registers, .inl (k_this_registers, 16, .inl r_this_registers)), (a_this_status, oX5 o_this_status), (a_this_storage, oX6 a_this_storage_bytes a_this_storage_keys), (a_this_storage_bytes, .inl (k_this_storage_bytes, 2048, .inl w_4)), (a_this_storage_keys, .inl (k_this_storage_keys, 8, .inl r_this_storage_keys))] H := hP
    have hD : va_D A [(a_this, oX3 a_this_storage a_this_status a_this_channel a_this_registers a_this_first a_this_second o_this), (a_this_registers, .inl (k_this_registers, 16, .inl r_this_registers)), (a_this_status, oX5 o_this_status), (a_this_storage, oX6 a_this_storage_bytes a_this_storage_keys), (a_this_storage_bytes, .inl (k_this_storage_bytes, 2048, .inl w_4)), (a_this_storage_keys, .inl (k_this_storage_keys, 8, .inl r_this_storage_keys))] := hD
    rw [q_let_of hw] at hF
    refine lv_iload_n hx hb dX3_storeHalfword_34 rfl (lv_at hl 0 rfl) ?_
    exact hQ (f_X3_storeFault o_this_status r_this_storage_keys o_this.2.2.2.2.2.2.2.2.1 2 2) ((f_X3_storeFault o_this_status r_this_storage_keys o_this.2.2.2.2.2.2.2.2.1 2 2), w_4) _ _ _ _ dX3_storeHalfword_35 ⟨hF.symm, rfl⟩ hP hD hS
theorem cv_X3_storeHalfword : qV yX3_storeHalfword cX3_storeHalfword 2 (some .int) 0 := ⟨kc_X3_storeHalfword, kt_X3_storeHalfword, ks_X3_storeHalfword, kn_X3, by decide, by decide +kernel⟩
def f_X3_storeWord (o_this : Bool × Int32 × Int32 × Int32 × Int32 × Int32 × Int32 × Int32 × Int32 × Int32) (r_this_registers : Nat → Int32) (o_this_status : Int32 × Int32 × Int32 × Int32) (r_this_storage_bytes : Nat → Int32) (r_this_storage_keys : Nat → Int32) : Int32 × (Nat → Int32) := (if (f_X3_storeFault o_this_status r_this_storage_keys o_this.2.2.2.2.2.2.2.2.1 4 4) = 0 then (q_let (f_X6_putWord r_this_storage_bytes o_this.2.2.2.2.2.2.2.2.1 (f_X3_register r_this_registers o_this.2.2.2.2.2.2.1)) fun w_4 => ((f_X3_storeFault o_this_status r_this_storage_keys o_this.2.2.2.2.2.2.2.2.1 4 4), w_4)) else ((f_X3_storeFault o_this_status r_this_storage_keys o_this.2.2.2.2.2.2.2.2.1 4 4), r_this_storage_bytes))
set_option linter.all false in
set_option maxHeartbeats 4000000 in
set_option maxRecDepth 100000 in
theorem c_X3_storeWord (l : Launch) (D : va_G) (a_this a_this_registers a_this_status a_this_storage a_this_storage_bytes a_this_storage_keys a_this_channel a_this_first a_this_second : Nat) (k_this_registers k_this_storage_bytes k_this_storage_keys : ClassId) (o_this : Bool × Int32 × Int32 × Int32 × Int32 × Int32 × Int32 × Int32 × Int32 × Int32) (r_this_registers : Nat → Int32) (o_this_status : Int32 × Int32 × Int32 × Int32) (r_this_storage_bytes : Nat → Int32) (r_this_storage_keys : Nat → Int32) : CtI l yX3_storeWord cX3_storeWord 2 (some .int) { frames := 3, cells := 0, slots := 0, locals := 72 } D [.ref a_this] [(a_this, oX3 a_this_storage a_this_status a_this_channel a_this_registers a_this_first a_this_second o_this), (a_this_registers, .inl (k_this_registers, 16, .inl r_this_registers)), (a_this_status, oX5 o_this_status), (a_this_storage, oX6 a_this_storage_bytes a_this_storage_keys), (a_this_storage_bytes, .inl (k_this_storage_bytes, 2048, .inl r_this_storage_bytes)), (a_this_storage_keys, .inl (k_this_storage_keys, 8, .inl r_this_storage_keys))] [(k_this_registers, .int), (k_this_storage_bytes, .byte), (k_this_storage_keys, .int)] (fun (r : Int32) (u : Int32 × (Nat → Int32)) => f_X3_storeWord o_this r_this_registers o_this_status r_this_storage_bytes r_this_storage_keys = u ∧ r = u.1) (fun u => [(a_this, oX3 a_this_storage a_this_status a_this_channel a_this_registers a_this_first a_this_second o_this), (a_this_registers, .inl (k_this_registers, 16, .inl r_this_registers)), (a_this_status, oX5 o_this_status), (a_this_storage, oX6 a_this_storage_bytes a_this_storage_keys), (a_this_storage_bytes, .inl (k_this_storage_bytes, 2048, .inl u.2)), (a_this_storage_keys, .inl (k_this_storage_keys, 8, .inl r_this_storage_keys))]) := by
  refine CtI.of (by decide) (Nat.le_of_ble_eq_true rfl) ?_
  intro p e s m below meth c A ls Q hE hP hD hS hl hQ
  obtain ⟨hx, hb, hml, hown, ht, hN, hK, hA⟩ := hE
  have hown : s.vm.findClass RX3 = some m.cls := hown
  have hl : lv_has ls 2 [(0, .ref a_this)] := hl
  obtain ⟨F, hF⟩ : ∃ F, f_X3_storeWord o_this r_this_registers o_this_status r_this_storage_bytes r_this_storage_keys = F := ⟨_, rfl⟩
  rw [hF] at hQ
  unfold f_X3_storeWord at hF
  refine lv_aload_n hx hb dX3_storeWord_0 rfl (lv_at hl 0 rfl) ?_
  refine lv_aload_n hx hb dX3_storeWord_1 rfl (lv_at hl 0 rfl) ?_
  refine gf_X3_152 (v := .int o_this.2.2.2.2.2.2.2.2.1) hx hb hown ht hK hP 0 rfl rfl dX3_storeWord_2 ?_
  refine lv_iconst (v := 4) hx hb dX3_storeWord_5 (by decide) ?_
  refine lv_iconst (v := 4) hx hb dX3_storeWord_6 (by decide) ?_
  refine q_Vi (rest := []) (c_X3_storeFault l D a_this a_this_status a_this_storage a_this_storage_keys a_this_channel a_this_registers a_this_first a_this_second a_this_storage_bytes k_this_storage_keys o_this o_this_status r_this_storage_keys o_this.2.2.2.2.2.2.2.2.1 4 4) cv_X3_storeFault hx hb hml hown ht hN hK hA hP hD hS hl.1 (km_X3_264) ⟨Nat.le_of_ble_eq_true rfl, Nat.le_of_ble_eq_true rfl⟩ rfl rfl [0, 2, 3, 5] (by decide) rfl [2] rfl (fun _ => rfl) (ci := 3) rfl rfl rfl rfl rfl (Nat.le_of_ble_eq_true rfl) dX3_storeWord_7 ⟨Nat.zero_le _, Nat.zero_le _⟩ (fun r u H locs hw hP hD hS => ?_)
  obtain ⟨rfl, rfl⟩ := hw
  have hP : va_P D vwCl [(a_this, oX3 a_this_storage a_this_status a_this_channel a_this_registers a_this_first a_this_second o_this), (a_this_registers, .inl (k_this_registers, 16, .inl r_this_registers)), (a_this_status, oX5 o_this_status), (a_this_storage, oX6 a_this_storage_bytes a_this_storage_keys), (a_this_storage_bytes, .inl (k_this_storage_bytes, 2048, .inl r_this_storage_bytes)), (a_this_storage_keys, .inl (k_this_storage_keys, 8, .inl r_this_storage_keys))] H := hP
  have hD : va_D A [(a_this, oX3 a_this_storage a_this_status a_this_channel a_this_registers a_this_first a_this_second o_this), (a_this_registers, .inl (k_this_registers, 16, .inl r_this_registers)), (a_this_status, oX5 o_this_status), (a_this_storage, oX6 a_this_storage_bytes a_this_storage_keys), (a_this_storage_bytes, .inl (k_this_storage_bytes, 2048, .inl r_this_storage_bytes)), (a_this_storage_keys, .inl (k_this_storage_keys, 8, .inl r_this_storage_keys))] := hD
  refine lv_istore_n (lv' := [(1, .int (f_X3_storeFault o_this_status r_this_storage_keys o_this.2.2.2.2.2.2.2.2.1 4 4)), (0, .ref a_this)]) hx hb dX3_storeWord_10 rfl hl (by decide) rfl (fun ls hl => ?_)
  refine lv_iload_n hx hb dX3_storeWord_11 rfl (lv_at hl 0 rfl) ?_
  refine lv_if_ne (tgt := 34) hx hb dX3_storeWord_12 (by decide) (fun c_2 => ?_) (fun c_2 => ?_)
  · skip
    rw [if_neg c_2] at hF
    refine lv_iload_n hx hb dX3_storeWord_34 rfl (lv_at hl 0 rfl) ?_
    exact hQ (f_X3_storeFault o_this_status r_this_storage_keys o_this.2.2.2.2.2.2.2.2.1 4 4) ((f_X3_storeFault o_this_status r_this_storage_keys o_this.2.2.2.2.2.2.2.2.1 4 4), r_this_storage_bytes) _ _ _ _ dX3_storeWord_35 ⟨hF.symm, rfl⟩ hP hD hS
  · skip
    rw [if_pos c_2] at hF
    refine lv_aload_n hx hb dX3_storeWord_15 rfl (lv_at hl 1 rfl) ?_
    refine gf_X3_12 (v := .ref a_this_storage) hx hb hown ht hK hP 0 rfl rfl dX3_storeWord_16 ?_
    refine lv_aload_n hx hb dX3_storeWord_19 rfl (lv_at hl 1 rfl) ?_
    refine gf_X3_152 (v := .int o_this.2.2.2.2.2.2.2.2.1) hx hb hown ht hK hP 0 rfl rfl dX3_storeWord_20 ?_
    refine lv_aload_n hx hb dX3_storeWord_23 rfl (lv_at hl 1 rfl) ?_
    refine lv_aload_n hx hb dX3_storeWord_24 rfl (lv_at hl 1 rfl) ?_
    refine gf_X3_142 (v := .int o_this.2.2.2.2.2.2.1) hx hb hown ht hK hP 0 rfl rfl dX3_storeWord_25 ?_
    refine q_Vi (rest := [.int o_this.2.2.2.2.2.2.2.2.1, .ref a_this_storage]) (c_X3_register l D a_this a_this_registers a_this_storage a_this_status a_this_channel a_this_first a_this_second k_this_registers o_this r_this_registers o_this.2.2.2.2.2.2.1) cv_X3_register hx hb hml hown ht hN hK hA hP hD hS hl.1 (km_X3_161) ⟨Nat.le_of_ble_eq_true rfl, Nat.le_of_ble_eq_true rfl⟩ rfl rfl [0, 1] (by decide) rfl [0] rfl (fun _ => rfl) (ci := 3) rfl rfl rfl rfl rfl (Nat.le_of_ble_eq_true rfl) dX3_storeWord_28 ⟨Nat.zero_le _, Nat.zero_le _⟩ (fun r u H locs hw hP hD hS => ?_)
    obtain ⟨rfl, rfl⟩ := hw
    have hP : va_P D vwCl [(a_this, oX3 a_this_storage a_this_status a_this_channel a_this_registers a_this_first a_this_second o_this), (a_this_registers, .inl (k_this_registers, 16, .inl r_this_registers)), (a_this_status, oX5 o_this_status), (a_this_storage, oX6 a_this_storage_bytes a_this_storage_keys), (a_this_storage_bytes, .inl (k_this_storage_bytes, 2048, .inl r_this_storage_bytes)), (a_this_storage_keys, .inl (k_this_storage_keys, 8, .inl r_this_storage_keys))] H := hP
    have hD : va_D A [(a_this, oX3 a_this_storage a_this_status a_this_channel a_this_registers a_this_first a_this_second o_this), (a_this_registers, .inl (k_this_registers, 16, .inl r_this_registers)), (a_this_status, oX5 o_this_status), (a_this_storage, oX6 a_this_storage_bytes a_this_storage_keys), (a_this_storage_bytes, .inl (k_this_storage_bytes, 2048, .inl r_this_storage_bytes)), (a_this_storage_keys, .inl (k_this_storage_keys, 8, .inl r_this_storage_keys))] := hD
    refine q_Vv (rest := []) (c_X6_putWord l D a_this_storage a_this_storage_bytes a_this_storage_keys k_this_storage_bytes r_this_storage_bytes o_this.2.2.2.2.2.2.2.2.1 (f_X3_register r_this_registers o_this.2.2.2.2.2.2.1)) cv_X6_putWord hx hb hml hown ht hN hK hA hP hD hS hl.1 (km_X3_104) ⟨Nat.le_of_ble_eq_true rfl, Nat.le_of_ble_eq_true rfl⟩ rfl rfl [3, 4] (by decide) rfl [1] rfl (fun _ => rfl) (ci := 6) rfl rfl rfl rfl rfl (Nat.le_of_ble_eq_true rfl) dX3_storeWord_31 ⟨Nat.zero_le _, Nat.zero_le _⟩ (fun w_4 H locs hw hP hD hS => ?_)
    have hP : va_P D vwCl [(a_this, oX3 a_this_storage a_this_status a_this_channel a_this_registers a_this_first a_this_second o_this), (a_this_registers, .inl (k_this_registers, 16, .inl r_this_registers)), (a_this_status, oX5 o_this_status), (a_this_storage, oX6 a_this_storage_bytes a_this_storage_keys), (a_this_storage_bytes, .inl (k_this_storage_bytes, 2048, .inl w_4)), (a_this_storage_keys, .inl (k_this_storage_keys, 8, .inl r_this_storage_keys))] H := hP
    have hD : va_D A [(a_this, oX3 a_this_storage a_this_status a_this_channel a_this_registers a_this_first a_this_second o_this), (a_this_registers, .inl (k_this_registers, 16, .inl r_this_registers)), (a_this_status, oX5 o_this_status), (a_this_storage, oX6 a_this_storage_bytes a_this_storage_keys), (a_this_storage_bytes, .inl (k_this_storage_bytes, 2048, .inl w_4)), (a_this_storage_keys, .inl (k_this_storage_keys, 8, .inl r_this_storage_keys))] := hD
    rw [q_let_of hw] at hF
    refine lv_iload_n hx hb dX3_storeWord_34 rfl (lv_at hl 0 rfl) ?_
    exact hQ (f_X3_storeFault o_this_status r_this_storage_keys o_this.2.2.2.2.2.2.2.2.1 4 4) ((f_X3_storeFault o_this_status r_this_storage_keys o_this.2.2.2.2.2.2.2.2.1 4 4), w_4) _ _ _ _ dX3_storeWord_35 ⟨hF.symm, rfl⟩ hP hD hS
theorem cv_X3_storeWord : qV yX3_storeWord cX3_storeWord 2 (some .int) 0 := ⟨kc_X3_storeWord, kt_X3_storeWord, ks_X3_storeWord, kn_X3, by decide, by decide +kernel⟩
def f_X3_storeByte (o_this : Bool × Int32 × Int32 × Int32 × Int32 × Int32 × Int32 × Int32 × Int32 × Int32) (o_this_status : Int32 × Int32 × Int32 × Int32) (r_this_storage_bytes : Nat → Int32) (r_this_storage_keys : Nat → Int32) (p1 : Int32) : Int32 × (Nat → Int32) := (if (f_X3_storeFault o_this_status r_this_storage_keys o_this.2.2.2.2.2.2.2.2.1 1 1) = 0 then (q_let (f_X6_putByte r_this_storage_bytes o_this.2.2.2.2.2.2.2.2.1 p1) fun w_3 => ((f_X3_storeFault o_this_status r_this_storage_keys o_this.2.2.2.2.2.2.2.2.1 1 1), w_3)) else ((f_X3_storeFault o_this_status r_this_storage_keys o_this.2.2.2.2.2.2.2.2.1 1 1), r_this_storage_bytes))
set_option linter.all false in
set_option maxHeartbeats 4000000 in
set_option maxRecDepth 100000 in
theorem c_X3_storeByte (l : Launch) (D : va_G) (a_this a_this_status a_this_storage a_this_storage_bytes a_this_storage_keys a_this_channel a_this_registers a_this_first a_this_second : Nat) (k_this_storage_bytes k_this_storage_keys : ClassId) (o_this : Bool × Int32 × Int32 × Int32 × Int32 × Int32 × Int32 × Int32 × Int32 × Int32) (o_this_status : Int32 × Int32 × Int32 × Int32) (r_this_storage_bytes : Nat → Int32) (r_this_storage_keys : Nat → Int32) (p1 : Int32) : CtI l yX3_storeByte cX3_storeByte 3 (some .int) { frames := 3, cells := 0, slots := 0, locals := 72 } D [.ref a_this, .int p1] [(a_this, oX3 a_this_storage a_this_status a_this_channel a_this_registers a_this_first a_this_second o_this), (a_this_status, oX5 o_this_status), (a_this_storage, oX6 a_this_storage_bytes a_this_storage_keys), (a_this_storage_bytes, .inl (k_this_storage_bytes, 2048, .inl r_this_storage_bytes)), (a_this_storage_keys, .inl (k_this_storage_keys, 8, .inl r_this_storage_keys))] [(k_this_storage_bytes, .byte), (k_this_storage_keys, .int)] (fun (r : Int32) (u : Int32 × (Nat → Int32)) => f_X3_storeByte o_this o_this_status r_this_storage_bytes r_this_storage_keys p1 = u ∧ r = u.1) (fun u => [(a_this, oX3 a_this_storage a_this_status a_this_channel a_this_registers a_this_first a_this_second o_this), (a_this_status, oX5 o_this_status), (a_this_storage, oX6 a_this_storage_bytes a_this_storage_keys), (a_this_storage_bytes, .inl (k_this_storage_bytes, 2048, .inl u.2)), (a_this_storage_keys, .inl (k_this_storage_keys, 8, .inl r_this_storage_keys))]) := by
  refine CtI.of (by decide) (Nat.le_of_ble_eq_true rfl) ?_
  intro p e s m below meth c A ls Q hE hP hD hS hl hQ
  obtain ⟨hx, hb, hml, hown, ht, hN, hK, hA⟩ := hE
  have hown : s.vm.findClass RX3 = some m.cls := hown
  have hl : lv_has ls 3 [(0, .ref a_this), (1, .int p1)] := hl
  obtain ⟨F, hF⟩ : ∃ F, f_X3_storeByte o_this o_this_status r_this_storage_bytes r_this_storage_keys p1 = F := ⟨_, rfl⟩
  rw [hF] at hQ
  unfold f_X3_storeByte at hF
  refine lv_aload_n hx hb dX3_storeByte_0 rfl (lv_at hl 0 rfl) ?_
  refine lv_aload_n hx hb dX3_storeByte_1 rfl (lv_at hl 0 rfl) ?_
  refine gf_X3_152 (v := .int o_this.2.2.2.2.2.2.2.2.1) hx hb hown ht hK hP 0 rfl rfl dX3_storeByte_2 ?_
  refine lv_iconst (v := 1) hx hb dX3_storeByte_5 (by decide) ?_
  refine lv_iconst (v := 1) hx hb dX3_storeByte_6 (by decide) ?_
  refine q_Vi (rest := []) (c_X3_storeFault l D a_this a_this_status a_this_storage a_this_storage_keys a_this_channel a_this_registers a_this_first a_this_second a_this_storage_bytes k_this_storage_keys o_this o_this_status r_this_storage_keys o_this.2.2.2.2.2.2.2.2.1 1 1) cv_X3_storeFault hx hb hml hown ht hN hK hA hP hD hS hl.1 (km_X3_264) ⟨Nat.le_of_ble_eq_true rfl, Nat.le_of_ble_eq_true rfl⟩ rfl rfl [0, 1, 2, 4] (by decide) rfl [1] rfl (fun _ => rfl) (ci := 3) rfl rfl rfl rfl rfl (Nat.le_of_ble_eq_true rfl) dX3_storeByte_7 ⟨Nat.zero_le _, Nat.zero_le _⟩ (fun r u H locs hw hP hD hS => ?_)
  obtain ⟨rfl, rfl⟩ := hw
  have hP : va_P D vwCl [(a_this, oX3 a_this_storage a_this_status a_this_channel a_this_registers a_this_first a_this_second o_this), (a_this_status, oX5 o_this_status), (a_this_storage, oX6 a_this_storage_bytes a_this_storage_keys), (a_this_storage_bytes, .inl (k_this_storage_bytes, 2048, .inl r_this_storage_bytes)), (a_this_storage_keys, .inl (k_this_storage_keys, 8, .inl r_this_storage_keys))] H := hP
  have hD : va_D A [(a_this, oX3 a_this_storage a_this_status a_this_channel a_this_registers a_this_first a_this_second o_this), (a_this_status, oX5 o_this_status), (a_this_storage, oX6 a_this_storage_bytes a_this_storage_keys), (a_this_storage_bytes, .inl (k_this_storage_bytes, 2048, .inl r_this_storage_bytes)), (a_this_storage_keys, .inl (k_this_storage_keys, 8, .inl r_this_storage_keys))] := hD
  refine lv_istore_n (lv' := [(2, .int (f_X3_storeFault o_this_status r_this_storage_keys o_this.2.2.2.2.2.2.2.2.1 1 1)), (0, .ref a_this), (1, .int p1)]) hx hb dX3_storeByte_10 rfl hl (by decide) rfl (fun ls hl => ?_)
  refine lv_iload_n hx hb dX3_storeByte_11 rfl (lv_at hl 0 rfl) ?_
  refine lv_if_ne (tgt := 27) hx hb dX3_storeByte_12 (by decide) (fun c_2 => ?_) (fun c_2 => ?_)
  · skip
    rw [if_neg c_2] at hF
    refine lv_iload_n hx hb dX3_storeByte_27 rfl (lv_at hl 0 rfl) ?_
    exact hQ (f_X3_storeFault o_this_status r_this_storage_keys o_this.2.2.2.2.2.2.2.2.1 1 1) ((f_X3_storeFault o_this_status r_this_storage_keys o_this.2.2.2.2.2.2.2.2.1 1 1), r_this_storage_bytes) _ _ _ _ dX3_storeByte_28 ⟨hF.symm, rfl⟩ hP hD hS
  · skip
    rw [if_pos c_2] at hF
    refine lv_aload_n hx hb dX3_storeByte_15 rfl (lv_at hl 1 rfl) ?_
    refine gf_X3_12 (v := .ref a_this_storage) hx hb hown ht hK hP 0 rfl rfl dX3_storeByte_16 ?_
    refine lv_aload_n hx hb dX3_storeByte_19 rfl (lv_at hl 1 rfl) ?_
    refine gf_X3_152 (v := .int o_this.2.2.2.2.2.2.2.2.1) hx hb hown ht hK hP 0 rfl rfl dX3_storeByte_20 ?_
    refine lv_iload_n hx hb dX3_storeByte_23 rfl (lv_at hl 2 rfl) ?_
    refine q_Vv (rest := []) (c_X6_putByte l D a_this_storage a_this_storage_bytes a_this_storage_keys k_this_storage_bytes r_this_storage_bytes o_this.2.2.2.2.2.2.2.2.1 p1) cv_X6_putByte hx hb hml hown ht hN hK hA hP hD hS hl.1 (km_X3_270) ⟨Nat.le_of_ble_eq_true rfl, Nat.le_of_ble_eq_true rfl⟩ rfl rfl [2, 3] (by decide) rfl [0] rfl (fun _ => rfl) (ci := 6) rfl rfl rfl rfl rfl (Nat.le_of_ble_eq_true rfl) dX3_storeByte_24 ⟨Nat.zero_le _, Nat.zero_le _⟩ (fun w_3 H locs hw hP hD hS => ?_)
    have hP : va_P D vwCl [(a_this, oX3 a_this_storage a_this_status a_this_channel a_this_registers a_this_first a_this_second o_this), (a_this_status, oX5 o_this_status), (a_this_storage, oX6 a_this_storage_bytes a_this_storage_keys), (a_this_storage_bytes, .inl (k_this_storage_bytes, 2048, .inl w_3)), (a_this_storage_keys, .inl (k_this_storage_keys, 8, .inl r_this_storage_keys))] H := hP
    have hD : va_D A [(a_this, oX3 a_this_storage a_this_status a_this_channel a_this_registers a_this_first a_this_second o_this), (a_this_status, oX5 o_this_status), (a_this_storage, oX6 a_this_storage_bytes a_this_storage_keys), (a_this_storage_bytes, .inl (k_this_storage_bytes, 2048, .inl w_3)), (a_this_storage_keys, .inl (k_this_storage_keys, 8, .inl r_this_storage_keys))] := hD
    rw [q_let_of hw] at hF
    refine lv_iload_n hx hb dX3_storeByte_27 rfl (lv_at hl 0 rfl) ?_
    exact hQ (f_X3_storeFault o_this_status r_this_storage_keys o_this.2.2.2.2.2.2.2.2.1 1 1) ((f_X3_storeFault o_this_status r_this_storage_keys o_this.2.2.2.2.2.2.2.2.1 1 1), w_3) _ _ _ _ dX3_storeByte_28 ⟨hF.symm, rfl⟩ hP hD hS
theorem cv_X3_storeByte : qV yX3_storeByte cX3_storeByte 3 (some .int) 1 := ⟨kc_X3_storeByte, kt_X3_storeByte, ks_X3_storeByte, kn_X3, by decide, by decide +kernel⟩
def f_X3_loadAddress (o_this : Bool × Int32 × Int32 × Int32 × Int32 × Int32 × Int32 × Int32 × Int32 × Int32) (r_this_registers : Nat → Int32) : Int32 × (Nat → Int32) := (q_let (f_X3_putRegister r_this_registers o_this.2.2.2.2.2.2.1 o_this.2.2.2.2.2.2.2.2.1) fun w_1 => (0, w_1))
set_option linter.all false in
set_option maxHeartbeats 4000000 in
set_option maxRecDepth 100000 in
theorem c_X3_loadAddress (l : Launch) (D : va_G) (a_this a_this_registers a_this_storage a_this_status a_this_channel a_this_first a_this_second : Nat) (k_this_registers : ClassId) (o_this : Bool × Int32 × Int32 × Int32 × Int32 × Int32 × Int32 × Int32 × Int32 × Int32) (r_this_registers : Nat → Int32) : CtI l yX3_loadAddress cX3_loadAddress 1 (some .int) { frames := 1, cells := 0, slots := 0, locals := 22 } D [.ref a_this] [(a_this, oX3 a_this_storage a_this_status a_this_channel a_this_registers a_this_first a_this_second o_this), (a_this_registers, .inl (k_this_registers, 16, .inl r_this_registers))] [(k_this_registers, .int)] (fun (r : Int32) (u : Int32 × (Nat → Int32)) => f_X3_loadAddress o_this r_this_registers = u ∧ r = u.1) (fun u => [(a_this, oX3 a_this_storage a_this_status a_this_channel a_this_registers a_this_first a_this_second o_this), (a_this_registers, .inl (k_this_registers, 16, .inl u.2))]) := by
  refine CtI.of (by decide) (Nat.le_of_ble_eq_true rfl) ?_
  intro p e s m below meth c A ls Q hE hP hD hS hl hQ
  obtain ⟨hx, hb, hml, hown, ht, hN, hK, hA⟩ := hE
  have hown : s.vm.findClass RX3 = some m.cls := hown
  have hl : lv_has ls 1 [(0, .ref a_this)] := hl
  obtain ⟨F, hF⟩ : ∃ F, f_X3_loadAddress o_this r_this_registers = F := ⟨_, rfl⟩
  rw [hF] at hQ
  unfold f_X3_loadAddress at hF
  refine lv_aload_n hx hb dX3_loadAddress_0 rfl (lv_at hl 0 rfl) ?_
  refine lv_aload_n hx hb dX3_loadAddress_1 rfl (lv_at hl 0 rfl) ?_
  refine gf_X3_142 (v := .int o_this.2.2.2.2.2.2.1) hx hb hown ht hK hP 0 rfl rfl dX3_loadAddress_2 ?_
  refine lv_aload_n hx hb dX3_loadAddress_5 rfl (lv_at hl 0 rfl) ?_
  refine gf_X3_152 (v := .int o_this.2.2.2.2.2.2.2.2.1) hx hb hown ht hK hP 0 rfl rfl dX3_loadAddress_6 ?_
  refine q_Vv (rest := []) (c_X3_putRegister l D a_this a_this_registers a_this_storage a_this_status a_this_channel a_this_first a_this_second k_this_registers o_this r_this_registers o_this.2.2.2.2.2.2.1 o_this.2.2.2.2.2.2.2.2.1) cv_X3_putRegister hx hb hml hown ht hN hK hA hP hD hS hl.1 (km_X3_206) ⟨Nat.le_of_ble_eq_true rfl, Nat.le_of_ble_eq_true rfl⟩ rfl rfl [0, 1] (by decide) rfl [0] rfl (fun _ => rfl) (ci := 3) rfl rfl rfl rfl rfl (Nat.le_of_ble_eq_true rfl) dX3_loadAddress_9 ⟨Nat.zero_le _, Nat.zero_le _⟩ (fun w_1 H locs hw hP hD hS => ?_)
  have hP : va_P D vwCl [(a_this, oX3 a_this_storage a_this_status a_this_channel a_this_registers a_this_first a_this_second o_this), (a_this_registers, .inl (k_this_registers, 16, .inl w_1))] H := hP
  have hD : va_D A [(a_this, oX3 a_this_storage a_this_status a_this_channel a_this_registers a_this_first a_this_second o_this), (a_this_registers, .inl (k_this_registers, 16, .inl w_1))] := hD
  rw [q_let_of hw] at hF
  refine lv_iconst (v := 0) hx hb dX3_loadAddress_12 (by decide) ?_
  exact hQ 0 (0, w_1) _ _ _ _ dX3_loadAddress_13 ⟨hF.symm, rfl⟩ hP hD hS
theorem cv_X3_loadAddress : qV yX3_loadAddress cX3_loadAddress 1 (some .int) 0 := ⟨kc_X3_loadAddress, kt_X3_loadAddress, ks_X3_loadAddress, kn_X3, by decide, by decide +kernel⟩
def f_X3_insertByte (o_this : Bool × Int32 × Int32 × Int32 × Int32 × Int32 × Int32 × Int32 × Int32 × Int32) (r_this_registers : Nat → Int32) (r_this_storage_bytes : Nat → Int32) : Int32 × (Nat → Int32) := (if (f_X3_readFault o_this.2.2.2.2.2.2.2.2.1 1 1) = 0 then (q_let (f_X3_putRegister r_this_registers o_this.2.2.2.2.2.2.1 (((f_X3_register r_this_registers o_this.2.2.2.2.2.2.1) &&& ((-256) : Int32)) ||| (f_X6_byteAt r_this_storage_bytes o_this.2.2.2.2.2.2.2.2.1))) fun w_5 => ((f_X3_readFault o_this.2.2.2.2.2.2.2.2.1 1 1), w_5)) else ((f_X3_readFault o_this.2.2.2.2.2.2.2.2.1 1 1), r_this_registers))
set_option linter.all false in
set_option maxHeartbeats 4000000 in
set_option maxRecDepth 100000 in
theorem c_X3_insertByte (l : Launch) (D : va_G) (a_this a_this_registers a_this_storage a_this_storage_bytes a_this_status a_this_channel a_this_first a_this_second a_this_storage_keys : Nat) (k_this_registers k_this_storage_bytes : ClassId) (o_this : Bool × Int32 × Int32 × Int32 × Int32 × Int32 × Int32 × Int32 × Int32 × Int32) (r_this_registers : Nat → Int32) (r_this_storage_bytes : Nat → Int32) : CtI l yX3_insertByte cX3_insertByte 2 (some .int) { frames := 2, cells := 0, slots := 0, locals := 43 } D [.ref a_this] [(a_this, oX3 a_this_storage a_this_status a_this_channel a_this_registers a_this_first a_this_second o_this), (a_this_registers, .inl (k_this_registers, 16, .inl r_this_registers)), (a_this_storage, oX6 a_this_storage_bytes a_this_storage_keys), (a_this_storage_bytes, .inl (k_this_storage_bytes, 2048, .inl r_this_storage_bytes))] [(k_this_registers, .int), (k_this_storage_bytes, .byte)] (fun (r : Int32) (u : Int32 × (Nat → Int32)) => f_X3_insertByte o_this r_this_registers r_this_storage_bytes = u ∧ r = u.1) (fun u => [(a_this, oX3 a_this_storage a_this_status a_this_channel a_this_registers a_this_first a_this_second o_this), (a_this_registers, .inl (k_this_registers, 16, .inl u.2)), (a_this_storage, oX6 a_this_storage_bytes a_this_storage_keys), (a_this_storage_bytes, .inl (k_this_storage_bytes, 2048, .inl r_this_storage_bytes))]) := by
  refine CtI.of (by decide) (Nat.le_of_ble_eq_true rfl) ?_
  intro p e s m below meth c A ls Q hE hP hD hS hl hQ
  obtain ⟨hx, hb, hml, hown, ht, hN, hK, hA⟩ := hE
  have hown : s.vm.findClass RX3 = some m.cls := hown
  have hl : lv_has ls 2 [(0, .ref a_this)] := hl
  obtain ⟨F, hF⟩ : ∃ F, f_X3_insertByte o_this r_this_registers r_this_storage_bytes = F := ⟨_, rfl⟩
  rw [hF] at hQ
  unfold f_X3_insertByte at hF
  refine lv_aload_n hx hb dX3_insertByte_0 rfl (lv_at hl 0 rfl) ?_
  refine gf_X3_152 (v := .int o_this.2.2.2.2.2.2.2.2.1) hx hb hown ht hK hP 0 rfl rfl dX3_insertByte_1 ?_
  refine lv_iconst (v := 1) hx hb dX3_insertByte_4 (by decide) ?_
  refine lv_iconst (v := 1) hx hb dX3_insertByte_5 (by decide) ?_
  refine q_Si (rest := []) (c_X3_readFault l D o_this.2.2.2.2.2.2.2.2.1 1 1) cv_X3_readFault hx hb hml hown ht hN hK hA hP hD hS hl.1 (km_X3_165) ⟨Nat.le_of_ble_eq_true rfl, Nat.le_of_ble_eq_true rfl⟩ rfl rfl [] (by decide) rfl [] rfl (fun _ => rfl) rfl rfl (Nat.le_of_ble_eq_true rfl) dX3_insertByte_6 ⟨Nat.zero_le _, Nat.zero_le _⟩ (fun r u H locs hw hP hD hS => ?_)
  obtain ⟨rfl, rfl⟩ := hw
  have hP : va_P D vwCl [(a_this, oX3 a_this_storage a_this_status a_this_channel a_this_registers a_this_first a_this_second o_this), (a_this_registers, .inl (k_this_registers, 16, .inl r_this_registers)), (a_this_storage, oX6 a_this_storage_bytes a_this_storage_keys), (a_this_storage_bytes, .inl (k_this_storage_bytes, 2048, .inl r_this_storage_bytes))] H := hP
  have hD : va_D A [(a_this, oX3 a_this_storage a_this_status a_this_channel a_this_registers a_this_first a_this_second o_this), (a_this_registers, .inl (k_this_registers, 16, .inl r_this_registers)), (a_this_storage, oX6 a_this_storage_bytes a_this_storage_keys), (a_this_storage_bytes, .inl (k_this_storage_bytes, 2048, .inl r_this_storage_bytes))] := hD
  refine lv_istore_n (lv' := [(1, .int (f_X3_readFault o_this.2.2.2.2.2.2.2.2.1 1 1)), (0, .ref a_this)]) hx hb dX3_insertByte_9 rfl hl (by decide) rfl (fun ls hl => ?_)
  refine lv_iload_n hx hb dX3_insertByte_10 rfl (lv_at hl 0 rfl) ?_
  refine lv_if_ne (tgt := 46) hx hb dX3_insertByte_11 (by decide) (fun c_2 => ?_) (fun c_2 => ?_)
  · skip
    rw [if_neg c_2] at hF
    refine lv_iload_n hx hb dX3_insertByte_46 rfl (lv_at hl 0 rfl) ?_
    exact hQ (f_X3_readFault o_this.2.2.2.2.2.2.2.2.1 1 1) ((f_X3_readFault o_this.2.2.2.2.2.2.2.2.1 1 1), r_this_registers) _ _ _ _ dX3_insertByte_47 ⟨hF.symm, rfl⟩ hP hD hS
  · skip
    rw [if_pos c_2] at hF
    refine lv_aload_n hx hb dX3_insertByte_14 rfl (lv_at hl 1 rfl) ?_
    refine lv_aload_n hx hb dX3_insertByte_15 rfl (lv_at hl 1 rfl) ?_
    refine gf_X3_142 (v := .int o_this.2.2.2.2.2.2.1) hx hb hown ht hK hP 0 rfl rfl dX3_insertByte_16 ?_
    refine lv_aload_n hx hb dX3_insertByte_19 rfl (lv_at hl 1 rfl) ?_
    refine lv_aload_n hx hb dX3_insertByte_20 rfl (lv_at hl 1 rfl) ?_
    refine gf_X3_142 (v := .int o_this.2.2.2.2.2.2.1) hx hb hown ht hK hP 0 rfl rfl dX3_insertByte_21 ?_
    refine q_Vi (rest := [.int o_this.2.2.2.2.2.2.1, .ref a_this]) (c_X3_register l D a_this a_this_registers a_this_storage a_this_status a_this_channel a_this_first a_this_second k_this_registers o_this r_this_registers o_this.2.2.2.2.2.2.1) cv_X3_register hx hb hml hown ht hN hK hA hP hD hS hl.1 (km_X3_161) ⟨Nat.le_of_ble_eq_true rfl, Nat.le_of_ble_eq_true rfl⟩ rfl rfl [0, 1] (by decide) rfl [0] rfl (fun _ => rfl) (ci := 3) rfl rfl rfl rfl rfl (Nat.le_of_ble_eq_true rfl) dX3_insertByte_24 ⟨Nat.zero_le _, Nat.zero_le _⟩ (fun r u H locs hw hP hD hS => ?_)
    obtain ⟨rfl, rfl⟩ := hw
    have hP : va_P D vwCl [(a_this, oX3 a_this_storage a_this_status a_this_channel a_this_registers a_this_first a_this_second o_this), (a_this_registers, .inl (k_this_registers, 16, .inl r_this_registers)), (a_this_storage, oX6 a_this_storage_bytes a_this_storage_keys), (a_this_storage_bytes, .inl (k_this_storage_bytes, 2048, .inl r_this_storage_bytes))] H := hP
    have hD : va_D A [(a_this, oX3 a_this_storage a_this_status a_this_channel a_this_registers a_this_first a_this_second o_this), (a_this_registers, .inl (k_this_registers, 16, .inl r_this_registers)), (a_this_storage, oX6 a_this_storage_bytes a_this_storage_keys), (a_this_storage_bytes, .inl (k_this_storage_bytes, 2048, .inl r_this_storage_bytes))] := hD
    refine lv_sipush (v := (-256)) hx hb dX3_insertByte_27 (by decide) ?_
    refine lv_iand hx hb dX3_insertByte_30 ?_
    refine lv_aload_n hx hb dX3_insertByte_31 rfl (lv_at hl 1 rfl) ?_
    refine gf_X3_12 (v := .ref a_this_storage) hx hb hown ht hK hP 0 rfl rfl dX3_insertByte_32 ?_
    refine lv_aload_n hx hb dX3_insertByte_35 rfl (lv_at hl 1 rfl) ?_
    refine gf_X3_152 (v := .int o_this.2.2.2.2.2.2.2.2.1) hx hb hown ht hK hP 0 rfl rfl dX3_insertByte_36 ?_
    refine q_Vi (rest := [.int ((f_X3_register r_this_registers o_this.2.2.2.2.2.2.1) &&& ((-256) : Int32)), .int o_this.2.2.2.2.2.2.1, .ref a_this]) (c_X6_byteAt l D a_this_storage a_this_storage_bytes a_this_storage_keys k_this_storage_bytes r_this_storage_bytes o_this.2.2.2.2.2.2.2.2.1) cv_X6_byteAt hx hb hml hown ht hN hK hA hP hD hS hl.1 (km_X3_119) ⟨Nat.le_of_ble_eq_true rfl, Nat.le_of_ble_eq_true rfl⟩ rfl rfl [2, 3] (by decide) rfl [1] rfl (fun _ => rfl) (ci := 6) rfl rfl rfl rfl rfl (Nat.le_of_ble_eq_true rfl) dX3_insertByte_39 ⟨Nat.zero_le _, Nat.zero_le _⟩ (fun r u H locs hw hP hD hS => ?_)
    obtain ⟨rfl, rfl⟩ := hw
    have hP : va_P D vwCl [(a_this, oX3 a_this_storage a_this_status a_this_channel a_this_registers a_this_first a_this_second o_this), (a_this_registers, .inl (k_this_registers, 16, .inl r_this_registers)), (a_this_storage, oX6 a_this_storage_bytes a_this_storage_keys), (a_this_storage_bytes, .inl (k_this_storage_bytes, 2048, .inl r_this_storage_bytes))] H := hP
    have hD : va_D A [(a_this, oX3 a_this_storage a_this_status a_this_channel a_this_registers a_this_first a_this_second o_this), (a_this_registers, .inl (k_this_registers, 16, .inl r_this_registers)), (a_this_storage, oX6 a_this_storage_bytes a_this_storage_keys), (a_this_storage_bytes, .inl (k_this_storage_bytes, 2048, .inl r_this_storage_bytes))] := hD
    refine lv_ior hx hb dX3_insertByte_42 ?_
    refine q_Vv (rest := []) (c_X3_putRegister l D a_this a_this_registers a_this_storage a_this_status a_this_channel a_this_first a_this_second k_this_registers o_this r_this_registers o_this.2.2.2.2.2.2.1 (((f_X3_register r_this_registers o_this.2.2.2.2.2.2.1) &&& ((-256) : Int32)) ||| (f_X6_byteAt r_this_storage_bytes o_this.2.2.2.2.2.2.2.2.1))) cv_X3_putRegister hx hb hml hown ht hN hK hA hP hD hS hl.1 (km_X3_206) ⟨Nat.le_of_ble_eq_true rfl, Nat.le_of_ble_eq_true rfl⟩ rfl rfl [0, 1] (by decide) rfl [0] rfl (fun _ => rfl) (ci := 3) rfl rfl rfl rfl rfl (Nat.le_of_ble_eq_true rfl) dX3_insertByte_43 ⟨Nat.zero_le _, Nat.zero_le _⟩ (fun w_5 H locs hw hP hD hS => ?_)
    have hP : va_P D vwCl [(a_this, oX3 a_this_storage a_this_status a_this_channel a_this_registers a_this_first a_this_second o_this), (a_this_registers, .inl (k_this_registers, 16, .inl w_5)), (a_this_storage, oX6 a_this_storage_bytes a_this_storage_keys), (a_this_storage_bytes, .inl (k_this_storage_bytes, 2048, .inl r_this_storage_bytes))] H := hP
    have hD : va_D A [(a_this, oX3 a_this_storage a_this_status a_this_channel a_this_registers a_this_first a_this_second o_this), (a_this_registers, .inl (k_this_registers, 16, .inl w_5)), (a_this_storage, oX6 a_this_storage_bytes a_this_storage_keys), (a_this_storage_bytes, .inl (k_this_storage_bytes, 2048, .inl r_this_storage_bytes))] := hD
    rw [q_let_of hw] at hF
    refine lv_iload_n hx hb dX3_insertByte_46 rfl (lv_at hl 0 rfl) ?_
    exact hQ (f_X3_readFault o_this.2.2.2.2.2.2.2.2.1 1 1) ((f_X3_readFault o_this.2.2.2.2.2.2.2.2.1 1 1), w_5) _ _ _ _ dX3_insertByte_47 ⟨hF.symm, rfl⟩ hP hD hS
theorem cv_X3_insertByte : qV yX3_insertByte cX3_insertByte 2 (some .int) 0 := ⟨kc_X3_insertByte, kt_X3_insertByte, ks_X3_insertByte, kn_X3, by decide, by decide +kernel⟩
def f_X3_linkToPlace (o_this : Bool × Int32 × Int32 × Int32 × Int32 × Int32 × Int32 × Int32 × Int32 × Int32) (r_this_registers : Nat → Int32) (o_this_status : Int32 × Int32 × Int32 × Int32) : Int32 × (Nat → Int32) × (Int32 × Int32 × Int32 × Int32) := (q_let (f_X3_putRegister r_this_registers o_this.2.2.2.2.2.2.1 o_this_status.2.2.2) fun w_1 => (q_let (f_X5_goTo o_this_status o_this.2.2.2.2.2.2.2.2.1) fun w_2 => (0, w_1, w_2)))
set_option linter.all false in
set_option maxHeartbeats 4000000 in
set_option maxRecDepth 100000 in
theorem c_X3_linkToPlace (l : Launch) (D : va_G) (a_this a_this_registers a_this_status a_this_storage a_this_channel a_this_first a_this_second : Nat) (k_this_registers : ClassId) (o_this : Bool × Int32 × Int32 × Int32 × Int32 × Int32 × Int32 × Int32 × Int32 × Int32) (r_this_registers : Nat → Int32) (o_this_status : Int32 × Int32 × Int32 × Int32) : CtI l yX3_linkToPlace cX3_linkToPlace 1 (some .int) { frames := 1, cells := 0, slots := 0, locals := 22 } D [.ref a_this] [(a_this, oX3 a_this_storage a_this_status a_this_channel a_this_registers a_this_first a_this_second o_this), (a_this_registers, .inl (k_this_registers, 16, .inl r_this_registers)), (a_this_status, oX5 o_this_status)] [(k_this_registers, .int)] (fun (r : Int32) (u : Int32 × (Nat → Int32) × (Int32 × Int32 × Int32 × Int32)) => f_X3_linkToPlace o_this r_this_registers o_this_status = u ∧ r = u.1) (fun u => [(a_this, oX3 a_this_storage a_this_status a_this_channel a_this_registers a_this_first a_this_second o_this), (a_this_registers, .inl (k_this_registers, 16, .inl u.2.1)), (a_this_status, oX5 u.2.2)]) := by
  refine CtI.of (by decide) (Nat.le_of_ble_eq_true rfl) ?_
  intro p e s m below meth c A ls Q hE hP hD hS hl hQ
  obtain ⟨hx, hb, hml, hown, ht, hN, hK, hA⟩ := hE
  have hown : s.vm.findClass RX3 = some m.cls := hown
  have hl : lv_has ls 1 [(0, .ref a_this)] := hl
  obtain ⟨F, hF⟩ : ∃ F, f_X3_linkToPlace o_this r_this_registers o_this_status = F := ⟨_, rfl⟩
  rw [hF] at hQ
  unfold f_X3_linkToPlace at hF
  refine lv_aload_n hx hb dX3_linkToPlace_0 rfl (lv_at hl 0 rfl) ?_
  refine lv_aload_n hx hb dX3_linkToPlace_1 rfl (lv_at hl 0 rfl) ?_
  refine gf_X3_142 (v := .int o_this.2.2.2.2.2.2.1) hx hb hown ht hK hP 0 rfl rfl dX3_linkToPlace_2 ?_
  refine lv_aload_n hx hb dX3_linkToPlace_5 rfl (lv_at hl 0 rfl) ?_
  refine gf_X3_21 (v := .ref a_this_status) hx hb hown ht hK hP 0 rfl rfl dX3_linkToPlace_6 ?_
  refine gf_X3_116 (v := .int o_this_status.2.2.2) hx hb hown ht hK hP 2 rfl rfl dX3_linkToPlace_9 ?_
  refine q_Vv (rest := []) (c_X3_putRegister l D a_this a_this_registers a_this_storage a_this_status a_this_channel a_this_first a_this_second k_this_registers o_this r_this_registers o_this.2.2.2.2.2.2.1 o_this_status.2.2.2) cv_X3_putRegister hx hb hml hown ht hN hK hA hP hD hS hl.1 (km_X3_206) ⟨Nat.le_of_ble_eq_true rfl, Nat.le_of_ble_eq_true rfl⟩ rfl rfl [0, 1] (by decide) rfl [0] rfl (fun _ => rfl) (ci := 3) rfl rfl rfl rfl rfl (Nat.le_of_ble_eq_true rfl) dX3_linkToPlace_12 ⟨Nat.zero_le _, Nat.zero_le _⟩ (fun w_1 H locs hw hP hD hS => ?_)
  have hP : va_P D vwCl [(a_this, oX3 a_this_storage a_this_status a_this_channel a_this_registers a_this_first a_this_second o_this), (a_this_registers, .inl (k_this_registers, 16, .inl w_1)), (a_this_status, oX5 o_this_status)] H := hP
  have hD : va_D A [(a_this, oX3 a_this_storage a_this_status a_this_channel a_this_registers a_this_first a_this_second o_this), (a_this_registers, .inl (k_this_registers, 16, .inl w_1)), (a_this_status, oX5 o_this_status)] := hD
  rw [q_let_of hw] at hF
  refine lv_aload_n hx hb dX3_linkToPlace_15 rfl (lv_at hl 0 rfl) ?_
  refine gf_X3_21 (v := .ref a_this_status) hx hb hown ht hK hP 0 rfl rfl dX3_linkToPlace_16 ?_
  refine lv_aload_n hx hb dX3_linkToPlace_19 rfl (lv_at hl 0 rfl) ?_
  refine gf_X3_152 (v := .int o_this.2.2.2.2.2.2.2.2.1) hx hb hown ht hK hP 0 rfl rfl dX3_linkToPlace_20 ?_
  refine q_Vv (rest := []) (c_X5_goTo l D a_this_status o_this_status o_this.2.2.2.2.2.2.2.2.1) cv_X5_goTo hx hb hml hown ht hN hK hA hP hD hS hl.1 (km_X3_125) ⟨Nat.le_of_ble_eq_true rfl, Nat.le_of_ble_eq_true rfl⟩ rfl rfl [2] (by decide) rfl [] rfl (fun _ => rfl) (ci := 5) rfl rfl rfl rfl rfl (Nat.le_of_ble_eq_true rfl) dX3_linkToPlace_23 ⟨Nat.zero_le _, Nat.zero_le _⟩ (fun w_2 H locs hw hP hD hS => ?_)
  have hP : va_P D vwCl [(a_this, oX3 a_this_storage a_this_status a_this_channel a_this_registers a_this_first a_this_second o_this), (a_this_registers, .inl (k_this_registers, 16, .inl w_1)), (a_this_status, oX5 w_2)] H := hP
  have hD : va_D A [(a_this, oX3 a_this_storage a_this_status a_this_channel a_this_registers a_this_first a_this_second o_this), (a_this_registers, .inl (k_this_registers, 16, .inl w_1)), (a_this_status, oX5 w_2)] := hD
  rw [q_let_of hw] at hF
  refine lv_iconst (v := 0) hx hb dX3_linkToPlace_26 (by decide) ?_
  exact hQ 0 (0, w_1, w_2) _ _ _ _ dX3_linkToPlace_27 ⟨hF.symm, rfl⟩ hP hD hS
theorem cv_X3_linkToPlace : qV yX3_linkToPlace cX3_linkToPlace 1 (some .int) 0 := ⟨kc_X3_linkToPlace, kt_X3_linkToPlace, ks_X3_linkToPlace, kn_X3, by decide, by decide +kernel⟩
def f_X3_countAndBranch (o_this : Bool × Int32 × Int32 × Int32 × Int32 × Int32 × Int32 × Int32 × Int32 × Int32) (r_this_registers : Nat → Int32) (o_this_status : Int32 × Int32 × Int32 × Int32) : Int32 × (Nat → Int32) × (Int32 × Int32 × Int32 × Int32) := (q_let (f_X3_putRegister r_this_registers o_this.2.2.2.2.2.2.1 ((f_X3_register r_this_registers o_this.2.2.2.2.2.2.1) - (1 : Int32))) fun w_2 => (if (f_X3_register w_2 o_this.2.2.2.2.2.2.1) = 0 then (0, w_2, o_this_status) else (q_let (f_X5_goTo o_this_status o_this.2.2.2.2.2.2.2.2.1) fun w_5 => (0, w_2, w_5))))
set_option linter.all false in
set_option maxHeartbeats 4000000 in
set_option maxRecDepth 100000 in
theorem c_X3_countAndBranch (l : Launch) (D : va_G) (a_this a_this_registers a_this_status a_this_storage a_this_channel a_this_first a_this_second : Nat) (k_this_registers : ClassId) (o_this : Bool × Int32 × Int32 × Int32 × Int32 × Int32 × Int32 × Int32 × Int32 × Int32) (r_this_registers : Nat → Int32) (o_this_status : Int32 × Int32 × Int32 × Int32) : CtI l yX3_countAndBranch cX3_countAndBranch 1 (some .int) { frames := 1, cells := 0, slots := 0, locals := 22 } D [.ref a_this] [(a_this, oX3 a_this_storage a_this_status a_this_channel a_this_registers a_this_first a_this_second o_this), (a_this_registers, .inl (k_this_registers, 16, .inl r_this_registers)), (a_this_status, oX5 o_this_status)] [(k_this_registers, .int)] (fun (r : Int32) (u : Int32 × (Nat → Int32) × (Int32 × Int32 × Int32 × Int32)) => f_X3_countAndBranch o_this r_this_registers o_this_status = u ∧ r = u.1) (fun u => [(a_this, oX3 a_this_storage a_this_status a_this_channel a_this_registers a_this_first a_this_second o_this), (a_this_registers, .inl (k_this_registers, 16, .inl u.2.1)), (a_this_status, oX5 u.2.2)]) := by
  refine CtI.of (by decide) (Nat.le_of_ble_eq_true rfl) ?_
  intro p e s m below meth c A ls Q hE hP hD hS hl hQ
  obtain ⟨hx, hb, hml, hown, ht, hN, hK, hA⟩ := hE
  have hown : s.vm.findClass RX3 = some m.cls := hown
  have hl : lv_has ls 1 [(0, .ref a_this)] := hl
  obtain ⟨F, hF⟩ : ∃ F, f_X3_countAndBranch o_this r_this_registers o_this_status = F := ⟨_, rfl⟩
  rw [hF] at hQ
  unfold f_X3_countAndBranch at hF
  refine lv_aload_n hx hb dX3_countAndBranch_0 rfl (lv_at hl 0 rfl) ?_
  refine lv_aload_n hx hb dX3_countAndBranch_1 rfl (lv_at hl 0 rfl) ?_
  refine gf_X3_142 (v := .int o_this.2.2.2.2.2.2.1) hx hb hown ht hK hP 0 rfl rfl dX3_countAndBranch_2 ?_
  refine lv_aload_n hx hb dX3_countAndBranch_5 rfl (lv_at hl 0 rfl) ?_
  refine lv_aload_n hx hb dX3_countAndBranch_6 rfl (lv_at hl 0 rfl) ?_
  refine gf_X3_142 (v := .int o_this.2.2.2.2.2.2.1) hx hb hown ht hK hP 0 rfl rfl dX3_countAndBranch_7 ?_
  refine q_Vi (rest := [.int o_this.2.2.2.2.2.2.1, .ref a_this]) (c_X3_register l D a_this a_this_registers a_this_storage a_this_status a_this_channel a_this_first a_this_second k_this_registers o_this r_this_registers o_this.2.2.2.2.2.2.1) cv_X3_register hx hb hml hown ht hN hK hA hP hD hS hl.1 (km_X3_161) ⟨Nat.le_of_ble_eq_true rfl, Nat.le_of_ble_eq_true rfl⟩ rfl rfl [0, 1] (by decide) rfl [0] rfl (fun _ => rfl) (ci := 3) rfl rfl rfl rfl rfl (Nat.le_of_ble_eq_true rfl) dX3_countAndBranch_10 ⟨Nat.zero_le _, Nat.zero_le _⟩ (fun r u H locs hw hP hD hS => ?_)
  obtain ⟨rfl, rfl⟩ := hw
  have hP : va_P D vwCl [(a_this, oX3 a_this_storage a_this_status a_this_channel a_this_registers a_this_first a_this_second o_this), (a_this_registers, .inl (k_this_registers, 16, .inl r_this_registers)), (a_this_status, oX5 o_this_status)] H := hP
  have hD : va_D A [(a_this, oX3 a_this_storage a_this_status a_this_channel a_this_registers a_this_first a_this_second o_this), (a_this_registers, .inl (k_this_registers, 16, .inl r_this_registers)), (a_this_status, oX5 o_this_status)] := hD
  refine lv_iconst (v := 1) hx hb dX3_countAndBranch_13 (by decide) ?_
  refine lv_isub hx hb dX3_countAndBranch_14 ?_
  refine q_Vv (rest := []) (c_X3_putRegister l D a_this a_this_registers a_this_storage a_this_status a_this_channel a_this_first a_this_second k_this_registers o_this r_this_registers o_this.2.2.2.2.2.2.1 ((f_X3_register r_this_registers o_this.2.2.2.2.2.2.1) - (1 : Int32))) cv_X3_putRegister hx hb hml hown ht hN hK hA hP hD hS hl.1 (km_X3_206) ⟨Nat.le_of_ble_eq_true rfl, Nat.le_of_ble_eq_true rfl⟩ rfl rfl [0, 1] (by decide) rfl [0] rfl (fun _ => rfl) (ci := 3) rfl rfl rfl rfl rfl (Nat.le_of_ble_eq_true rfl) dX3_countAndBranch_15 ⟨Nat.zero_le _, Nat.zero_le _⟩ (fun w_2 H locs hw hP hD hS => ?_)
  have hP : va_P D vwCl [(a_this, oX3 a_this_storage a_this_status a_this_channel a_this_registers a_this_first a_this_second o_this), (a_this_registers, .inl (k_this_registers, 16, .inl w_2)), (a_this_status, oX5 o_this_status)] H := hP
  have hD : va_D A [(a_this, oX3 a_this_storage a_this_status a_this_channel a_this_registers a_this_first a_this_second o_this), (a_this_registers, .inl (k_this_registers, 16, .inl w_2)), (a_this_status, oX5 o_this_status)] := hD
  rw [q_let_of hw] at hF
  refine lv_aload_n hx hb dX3_countAndBranch_18 rfl (lv_at hl 0 rfl) ?_
  refine lv_aload_n hx hb dX3_countAndBranch_19 rfl (lv_at hl 0 rfl) ?_
  refine gf_X3_142 (v := .int o_this.2.2.2.2.2.2.1) hx hb hown ht hK hP 0 rfl rfl dX3_countAndBranch_20 ?_
  refine q_Vi (rest := []) (c_X3_register l D a_this a_this_registers a_this_storage a_this_status a_this_channel a_this_first a_this_second k_this_registers o_this w_2 o_this.2.2.2.2.2.2.1) cv_X3_register hx hb hml hown ht hN hK hA hP hD hS hl.1 (km_X3_161) ⟨Nat.le_of_ble_eq_true rfl, Nat.le_of_ble_eq_true rfl⟩ rfl rfl [0, 1] (by decide) rfl [0] rfl (fun _ => rfl) (ci := 3) rfl rfl rfl rfl rfl (Nat.le_of_ble_eq_true rfl) dX3_countAndBranch_23 ⟨Nat.zero_le _, Nat.zero_le _⟩ (fun r u H locs hw hP hD hS => ?_)
  obtain ⟨rfl, rfl⟩ := hw
  have hP : va_P D vwCl [(a_this, oX3 a_this_storage a_this_status a_this_channel a_this_registers a_this_first a_this_second o_this), (a_this_registers, .inl (k_this_registers, 16, .inl w_2)), (a_this_status, oX5 o_this_status)] H := hP
  have hD : va_D A [(a_this, oX3 a_this_storage a_this_status a_this_channel a_this_registers a_this_first a_this_second o_this), (a_this_registers, .inl (k_this_registers, 16, .inl w_2)), (a_this_status, oX5 o_this_status)] := hD
  refine lv_if_eq (tgt := 40) hx hb dX3_countAndBranch_26 (by decide) (fun c_4 => ?_) (fun c_4 => ?_)
  · skip
    rw [if_pos c_4] at hF
    refine lv_iconst (v := 0) hx hb dX3_countAndBranch_40 (by decide) ?_
    exact hQ 0 (0, w_2, o_this_status) _ _ _ _ dX3_countAndBranch_41 ⟨hF.symm, rfl⟩ hP hD hS
  · skip
    rw [if_neg c_4] at hF
    refine lv_aload_n hx hb dX3_countAndBranch_29 rfl (lv_at hl 0 rfl) ?_
    refine gf_X3_21 (v := .ref a_this_status) hx hb hown ht hK hP 0 rfl rfl dX3_countAndBranch_30 ?_
    refine lv_aload_n hx hb dX3_countAndBranch_33 rfl (lv_at hl 0 rfl) ?_
    refine gf_X3_152 (v := .int o_this.2.2.2.2.2.2.2.2.1) hx hb hown ht hK hP 0 rfl rfl dX3_countAndBranch_34 ?_
    refine q_Vv (rest := []) (c_X5_goTo l D a_this_status o_this_status o_this.2.2.2.2.2.2.2.2.1) cv_X5_goTo hx hb hml hown ht hN hK hA hP hD hS hl.1 (km_X3_125) ⟨Nat.le_of_ble_eq_true rfl, Nat.le_of_ble_eq_true rfl⟩ rfl rfl [2] (by decide) rfl [] rfl (fun _ => rfl) (ci := 5) rfl rfl rfl rfl rfl (Nat.le_of_ble_eq_true rfl) dX3_countAndBranch_37 ⟨Nat.zero_le _, Nat.zero_le _⟩ (fun w_5 H locs hw hP hD hS => ?_)
    have hP : va_P D vwCl [(a_this, oX3 a_this_storage a_this_status a_this_channel a_this_registers a_this_first a_this_second o_this), (a_this_registers, .inl (k_this_registers, 16, .inl w_2)), (a_this_status, oX5 w_5)] H := hP
    have hD : va_D A [(a_this, oX3 a_this_storage a_this_status a_this_channel a_this_registers a_this_first a_this_second o_this), (a_this_registers, .inl (k_this_registers, 16, .inl w_2)), (a_this_status, oX5 w_5)] := hD
    rw [q_let_of hw] at hF
    refine lv_iconst (v := 0) hx hb dX3_countAndBranch_40 (by decide) ?_
    exact hQ 0 (0, w_2, w_5) _ _ _ _ dX3_countAndBranch_41 ⟨hF.symm, rfl⟩ hP hD hS
theorem cv_X3_countAndBranch : qV yX3_countAndBranch cX3_countAndBranch 1 (some .int) 0 := ⟨kc_X3_countAndBranch, kt_X3_countAndBranch, ks_X3_countAndBranch, kn_X3, by decide, by decide +kernel⟩
def f_X3_combineHalfword (o_this : Bool × Int32 × Int32 × Int32 × Int32 × Int32 × Int32 × Int32 × Int32 × Int32) (r_this_registers : Nat → Int32) (o_this_status : Int32 × Int32 × Int32 × Int32) (r_this_storage_bytes : Nat → Int32) : Int32 × (Nat → Int32) × (Int32 × Int32 × Int32 × Int32) := (if (f_X3_readFault o_this.2.2.2.2.2.2.2.2.1 2 2) = 0 then (q_let (f_X3_combine o_this r_this_registers o_this_status ((f_X6_halfAt r_this_storage_bytes o_this.2.2.2.2.2.2.2.2.1).toInt16.toInt32)) fun w_4 => (w_4.1, w_4.2.1, w_4.2.2)) else ((f_X3_readFault o_this.2.2.2.2.2.2.2.2.1 2 2), r_this_registers, o_this_status))
set_option linter.all false in
set_option maxHeartbeats 4000000 in
set_option maxRecDepth 100000 in
theorem c_X3_combineHalfword (l : Launch) (D : va_G) (a_this a_this_registers a_this_status a_this_storage a_this_storage_bytes a_this_channel a_this_first a_this_second a_this_storage_keys : Nat) (k_this_registers k_this_storage_bytes : ClassId) (o_this : Bool × Int32 × Int32 × Int32 × Int32 × Int32 × Int32 × Int32 × Int32 × Int32) (r_this_registers : Nat → Int32) (o_this_status : Int32 × Int32 × Int32 × Int32) (r_this_storage_bytes : Nat → Int32) : CtI l yX3_combineHalfword cX3_combineHalfword 2 (some .int) { frames := 3, cells := 0, slots := 0, locals := 67 } D [.ref a_this] [(a_this, oX3 a_this_storage a_this_status a_this_channel a_this_registers a_this_first a_this_second o_this), (a_this_registers, .inl (k_this_registers, 16, .inl r_this_registers)), (a_this_status, oX5 o_this_status), (a_this_storage, oX6 a_this_storage_bytes a_this_storage_keys), (a_this_storage_bytes, .inl (k_this_storage_bytes, 2048, .inl r_this_storage_bytes))] [(k_this_registers, .int), (k_this_storage_bytes, .byte)] (fun (r : Int32) (u : Int32 × (Nat → Int32) × (Int32 × Int32 × Int32 × Int32)) => f_X3_combineHalfword o_this r_this_registers o_this_status r_this_storage_bytes = u ∧ r = u.1) (fun u => [(a_this, oX3 a_this_storage a_this_status a_this_channel a_this_registers a_this_first a_this_second o_this), (a_this_registers, .inl (k_this_registers, 16, .inl u.2.1)), (a_this_status, oX5 u.2.2), (a_this_storage, oX6 a_this_storage_bytes a_this_storage_keys), (a_this_storage_bytes, .inl (k_this_storage_bytes, 2048, .inl r_this_storage_bytes))]) := by
  refine CtI.of (by decide) (Nat.le_of_ble_eq_true rfl) ?_
  intro p e s m below meth c A ls Q hE hP hD hS hl hQ
  obtain ⟨hx, hb, hml, hown, ht, hN, hK, hA⟩ := hE
  have hown : s.vm.findClass RX3 = some m.cls := hown
  have hl : lv_has ls 2 [(0, .ref a_this)] := hl
  obtain ⟨F, hF⟩ : ∃ F, f_X3_combineHalfword o_this r_this_registers o_this_status r_this_storage_bytes = F := ⟨_, rfl⟩
  rw [hF] at hQ
  unfold f_X3_combineHalfword at hF
  refine lv_aload_n hx hb dX3_combineHalfword_0 rfl (lv_at hl 0 rfl) ?_
  refine gf_X3_152 (v := .int o_this.2.2.2.2.2.2.2.2.1) hx hb hown ht hK hP 0 rfl rfl dX3_combineHalfword_1 ?_
  refine lv_iconst (v := 2) hx hb dX3_combineHalfword_4 (by decide) ?_
  refine lv_iconst (v := 2) hx hb dX3_combineHalfword_5 (by decide) ?_
  refine q_Si (rest := []) (c_X3_readFault l D o_this.2.2.2.2.2.2.2.2.1 2 2) cv_X3_readFault hx hb hml hown ht hN hK hA hP hD hS hl.1 (km_X3_165) ⟨Nat.le_of_ble_eq_true rfl, Nat.le_of_ble_eq_true rfl⟩ rfl rfl [] (by decide) rfl [] rfl (fun _ => rfl) rfl rfl (Nat.le_of_ble_eq_true rfl) dX3_combineHalfword_6 ⟨Nat.zero_le _, Nat.zero_le _⟩ (fun r u H locs hw hP hD hS => ?_)
  obtain ⟨rfl, rfl⟩ := hw
  have hP : va_P D vwCl [(a_this, oX3 a_this_storage a_this_status a_this_channel a_this_registers a_this_first a_this_second o_this), (a_this_registers, .inl (k_this_registers, 16, .inl r_this_registers)), (a_this_status, oX5 o_this_status), (a_this_storage, oX6 a_this_storage_bytes a_this_storage_keys), (a_this_storage_bytes, .inl (k_this_storage_bytes, 2048, .inl r_this_storage_bytes))] H := hP
  have hD : va_D A [(a_this, oX3 a_this_storage a_this_status a_this_channel a_this_registers a_this_first a_this_second o_this), (a_this_registers, .inl (k_this_registers, 16, .inl r_this_registers)), (a_this_status, oX5 o_this_status), (a_this_storage, oX6 a_this_storage_bytes a_this_storage_keys), (a_this_storage_bytes, .inl (k_this_storage_bytes, 2048, .inl r_this_storage_bytes))] := hD
  refine lv_istore_n (lv' := [(1, .int (f_X3_readFault o_this.2.2.2.2.2.2.2.2.1 2 2)), (0, .ref a_this)]) hx hb dX3_combineHalfword_9 rfl hl (by decide) rfl (fun ls hl => ?_)
  refine lv_iload_n hx hb dX3_combineHalfword_10 rfl (lv_at hl 0 rfl) ?_
  refine lv_if_ne (tgt := 33) hx hb dX3_combineHalfword_11 (by decide) (fun c_2 => ?_) (fun c_2 => ?_)
  · skip
    rw [if_neg c_2] at hF
    refine lv_iload_n hx hb dX3_combineHalfword_33 rfl (lv_at hl 0 rfl) ?_
    exact hQ (f_X3_readFault o_this.2.2.2.2.2.2.2.2.1 2 2) ((f_X3_readFault o_this.2.2.2.2.2.2.2.2.1 2 2), r_this_registers, o_this_status) _ _ _ _ dX3_combineHalfword_34 ⟨hF.symm, rfl⟩ hP hD hS
  · skip
    rw [if_pos c_2] at hF
    refine lv_aload_n hx hb dX3_combineHalfword_14 rfl (lv_at hl 1 rfl) ?_
    refine lv_aload_n hx hb dX3_combineHalfword_15 rfl (lv_at hl 1 rfl) ?_
    refine gf_X3_12 (v := .ref a_this_storage) hx hb hown ht hK hP 0 rfl rfl dX3_combineHalfword_16 ?_
    refine lv_aload_n hx hb dX3_combineHalfword_19 rfl (lv_at hl 1 rfl) ?_
    refine gf_X3_152 (v := .int o_this.2.2.2.2.2.2.2.2.1) hx hb hown ht hK hP 0 rfl rfl dX3_combineHalfword_20 ?_
    refine q_Vi (rest := [.ref a_this]) (c_X6_halfAt l D a_this_storage a_this_storage_bytes a_this_storage_keys k_this_storage_bytes r_this_storage_bytes o_this.2.2.2.2.2.2.2.2.1) cv_X6_halfAt hx hb hml hown ht hN hK hA hP hD hS hl.1 (km_X3_158) ⟨Nat.le_of_ble_eq_true rfl, Nat.le_of_ble_eq_true rfl⟩ rfl rfl [3, 4] (by decide) rfl [1] rfl (fun _ => rfl) (ci := 6) rfl rfl rfl rfl rfl (Nat.le_of_ble_eq_true rfl) dX3_combineHalfword_23 ⟨Nat.zero_le _, Nat.zero_le _⟩ (fun r u H locs hw hP hD hS => ?_)
    obtain ⟨rfl, rfl⟩ := hw
    have hP : va_P D vwCl [(a_this, oX3 a_this_storage a_this_status a_this_channel a_this_registers a_this_first a_this_second o_this), (a_this_registers, .inl (k_this_registers, 16, .inl r_this_registers)), (a_this_status, oX5 o_this_status), (a_this_storage, oX6 a_this_storage_bytes a_this_storage_keys), (a_this_storage_bytes, .inl (k_this_storage_bytes, 2048, .inl r_this_storage_bytes))] H := hP
    have hD : va_D A [(a_this, oX3 a_this_storage a_this_status a_this_channel a_this_registers a_this_first a_this_second o_this), (a_this_registers, .inl (k_this_registers, 16, .inl r_this_registers)), (a_this_status, oX5 o_this_status), (a_this_storage, oX6 a_this_storage_bytes a_this_storage_keys), (a_this_storage_bytes, .inl (k_this_storage_bytes, 2048, .inl r_this_storage_bytes))] := hD
    refine lv_i2s hx hb dX3_combineHalfword_26 rfl ?_
    refine q_Vi (rest := []) (c_X3_combine l D a_this a_this_registers a_this_status a_this_storage a_this_channel a_this_first a_this_second k_this_registers o_this r_this_registers o_this_status ((f_X6_halfAt r_this_storage_bytes o_this.2.2.2.2.2.2.2.2.1).toInt16.toInt32)) cv_X3_combine hx hb hml hown ht hN hK hA hP hD hS hl.1 (km_X3_197) ⟨Nat.le_of_ble_eq_true rfl, Nat.le_of_ble_eq_true rfl⟩ rfl rfl [0, 1, 2] (by decide) rfl [0] rfl (fun _ => rfl) (ci := 3) rfl rfl rfl rfl rfl (Nat.le_of_ble_eq_true rfl) dX3_combineHalfword_27 ⟨Nat.zero_le _, Nat.zero_le _⟩ (fun r w_4 H locs hw hP hD hS => ?_)
    obtain ⟨hw, hr⟩ := hw
    subst hr
    have hP : va_P D vwCl [(a_this, oX3 a_this_storage a_this_status a_this_channel a_this_registers a_this_first a_this_second o_this), (a_this_registers, .inl (k_this_registers, 16, .inl w_4.2.1)), (a_this_status, oX5 w_4.2.2), (a_this_storage, oX6 a_this_storage_bytes a_this_storage_keys), (a_this_storage_bytes, .inl (k_this_storage_bytes, 2048, .inl r_this_storage_bytes))] H := hP
    have hD : va_D A [(a_this, oX3 a_this_storage a_this_status a_this_channel a_this_registers a_this_first a_this_second o_this), (a_this_registers, .inl (k_this_registers, 16, .inl w_4.2.1)), (a_this_status, oX5 w_4.2.2), (a_this_storage, oX6 a_this_storage_bytes a_this_storage_keys), (a_this_storage_bytes, .inl (k_this_storage_bytes, 2048, .inl r_this_storage_bytes))] := hD
    rw [q_let_of hw] at hF
    refine lv_goto (tgt := 34) hx hb dX3_combineHalfword_30 (by decide) ?_
    exact hQ w_4.1 (w_4.1, w_4.2.1, w_4.2.2) _ _ _ _ dX3_combineHalfword_34 ⟨hF.symm, rfl⟩ hP hD hS
theorem cv_X3_combineHalfword : qV yX3_combineHalfword cX3_combineHalfword 2 (some .int) 0 := ⟨kc_X3_combineHalfword, kt_X3_combineHalfword, ks_X3_combineHalfword, kn_X3, by decide, by decide +kernel⟩
def f_X3_combineWord (o_this : Bool × Int32 × Int32 × Int32 × Int32 × Int32 × Int32 × Int32 × Int32 × Int32) (r_this_registers : Nat → Int32) (o_this_status : Int32 × Int32 × Int32 × Int32) (r_this_storage_bytes : Nat → Int32) : Int32 × (Nat → Int32) × (Int32 × Int32 × Int32 × Int32) := (if (f_X3_readFault o_this.2.2.2.2.2.2.2.2.1 4 4) = 0 then (q_let (f_X3_combine o_this r_this_registers o_this_status (f_X6_wordAt r_this_storage_bytes o_this.2.2.2.2.2.2.2.2.1)) fun w_4 => (w_4.1, w_4.2.1, w_4.2.2)) else ((f_X3_readFault o_this.2.2.2.2.2.2.2.2.1 4 4), r_this_registers, o_this_status))
set_option linter.all false in
set_option maxHeartbeats 4000000 in
set_option maxRecDepth 100000 in
theorem c_X3_combineWord (l : Launch) (D : va_G) (a_this a_this_registers a_this_status a_this_storage a_this_storage_bytes a_this_channel a_this_first a_this_second a_this_storage_keys : Nat) (k_this_registers k_this_storage_bytes : ClassId) (o_this : Bool × Int32 × Int32 × Int32 × Int32 × Int32 × Int32 × Int32 × Int32 × Int32) (r_this_registers : Nat → Int32) (o_this_status : Int32 × Int32 × Int32 × Int32) (r_this_storage_bytes : Nat → Int32) : CtI l yX3_combineWord cX3_combineWord 2 (some .int) { frames := 3, cells := 0, slots := 0, locals := 67 } D [.ref a_this] [(a_this, oX3 a_this_storage a_this_status a_this_channel a_this_registers a_this_first a_this_second o_this), (a_this_registers, .inl (k_this_registers, 16, .inl r_this_registers)), (a_this_status, oX5 o_this_status), (a_this_storage, oX6 a_this_storage_bytes a_this_storage_keys), (a_this_storage_bytes, .inl (k_this_storage_bytes, 2048, .inl r_this_storage_bytes))] [(k_this_registers, .int), (k_this_storage_bytes, .byte)] (fun (r : Int32) (u : Int32 × (Nat → Int32) × (Int32 × Int32 × Int32 × Int32)) => f_X3_combineWord o_this r_this_registers o_this_status r_this_storage_bytes = u ∧ r = u.1) (fun u => [(a_this, oX3 a_this_storage a_this_status a_this_channel a_this_registers a_this_first a_this_second o_this), (a_this_registers, .inl (k_this_registers, 16, .inl u.2.1)), (a_this_status, oX5 u.2.2), (a_this_storage, oX6 a_this_storage_bytes a_this_storage_keys), (a_this_storage_bytes, .inl (k_this_storage_bytes, 2048, .inl r_this_storage_bytes))]) := by
  refine CtI.of (by decide) (Nat.le_of_ble_eq_true rfl) ?_
  intro p e s m below meth c A ls Q hE hP hD hS hl hQ
  obtain ⟨hx, hb, hml, hown, ht, hN, hK, hA⟩ := hE
  have hown : s.vm.findClass RX3 = some m.cls := hown
  have hl : lv_has ls 2 [(0, .ref a_this)] := hl
  obtain ⟨F, hF⟩ : ∃ F, f_X3_combineWord o_this r_this_registers o_this_status r_this_storage_bytes = F := ⟨_, rfl⟩
  rw [hF] at hQ
  unfold f_X3_combineWord at hF
  refine lv_aload_n hx hb dX3_combineWord_0 rfl (lv_at hl 0 rfl) ?_
  refine gf_X3_152 (v := .int o_this.2.2.2.2.2.2.2.2.1) hx hb hown ht hK hP 0 rfl rfl dX3_combineWord_1 ?_
  refine lv_iconst (v := 4) hx hb dX3_combineWord_4 (by decide) ?_
  refine lv_iconst (v := 4) hx hb dX3_combineWord_5 (by decide) ?_
  refine q_Si (rest := []) (c_X3_readFault l D o_this.2.2.2.2.2.2.2.2.1 4 4) cv_X3_readFault hx hb hml hown ht hN hK hA hP hD hS hl.1 (km_X3_165) ⟨Nat.le_of_ble_eq_true rfl, Nat.le_of_ble_eq_true rfl⟩ rfl rfl [] (by decide) rfl [] rfl (fun _ => rfl) rfl rfl (Nat.le_of_ble_eq_true rfl) dX3_combineWord_6 ⟨Nat.zero_le _, Nat.zero_le _⟩ (fun r u H locs hw hP hD hS => ?_)
  obtain ⟨rfl, rfl⟩ := hw
  have hP : va_P D vwCl [(a_this, oX3 a_this_storage a_this_status a_this_channel a_this_registers a_this_first a_this_second o_this), (a_this_registers, .inl (k_this_registers, 16, .inl r_this_registers)), (a_this_status, oX5 o_this_status), (a_this_storage, oX6 a_this_storage_bytes a_this_storage_keys), (a_this_storage_bytes, .inl (k_this_storage_bytes, 2048, .inl r_this_storage_bytes))] H := hP
  have hD : va_D A [(a_this, oX3 a_this_storage a_this_status a_this_channel a_this_registers a_this_first a_this_second o_this), (a_this_registers, .inl (k_this_registers, 16, .inl r_this_registers)), (a_this_status, oX5 o_this_status), (a_this_storage, oX6 a_this_storage_bytes a_this_storage_keys), (a_this_storage_bytes, .inl (k_this_storage_bytes, 2048, .inl r_this_storage_bytes))] := hD
  refine lv_istore_n (lv' := [(1, .int (f_X3_readFault o_this.2.2.2.2.2.2.2.2.1 4 4)), (0, .ref a_this)]) hx hb dX3_combineWord_9 rfl hl (by decide) rfl (fun ls hl => ?_)
  refine lv_iload_n hx hb dX3_combineWord_10 rfl (lv_at hl 0 rfl) ?_
  refine lv_if_ne (tgt := 32) hx hb dX3_combineWord_11 (by decide) (fun c_2 => ?_) (fun c_2 => ?_)
  · skip
    rw [if_neg c_2] at hF
    refine lv_iload_n hx hb dX3_combineWord_32 rfl (lv_at hl 0 rfl) ?_
    exact hQ (f_X3_readFault o_this.2.2.2.2.2.2.2.2.1 4 4) ((f_X3_readFault o_this.2.2.2.2.2.2.2.2.1 4 4), r_this_registers, o_this_status) _ _ _ _ dX3_combineWord_33 ⟨hF.symm, rfl⟩ hP hD hS
  · skip
    rw [if_pos c_2] at hF
    refine lv_aload_n hx hb dX3_combineWord_14 rfl (lv_at hl 1 rfl) ?_
    refine lv_aload_n hx hb dX3_combineWord_15 rfl (lv_at hl 1 rfl) ?_
    refine gf_X3_12 (v := .ref a_this_storage) hx hb hown ht hK hP 0 rfl rfl dX3_combineWord_16 ?_
    refine lv_aload_n hx hb dX3_combineWord_19 rfl (lv_at hl 1 rfl) ?_
    refine gf_X3_152 (v := .int o_this.2.2.2.2.2.2.2.2.1) hx hb hown ht hK hP 0 rfl rfl dX3_combineWord_20 ?_
    refine q_Vi (rest := [.ref a_this]) (c_X6_wordAt l D a_this_storage a_this_storage_bytes a_this_storage_keys k_this_storage_bytes r_this_storage_bytes o_this.2.2.2.2.2.2.2.2.1) cv_X6_wordAt hx hb hml hown ht hN hK hA hP hD hS hl.1 (km_X3_100) ⟨Nat.le_of_ble_eq_true rfl, Nat.le_of_ble_eq_true rfl⟩ rfl rfl [3, 4] (by decide) rfl [1] rfl (fun _ => rfl) (ci := 6) rfl rfl rfl rfl rfl (Nat.le_of_ble_eq_true rfl) dX3_combineWord_23 ⟨Nat.zero_le _, Nat.zero_le _⟩ (fun r u H locs hw hP hD hS => ?_)
    obtain ⟨rfl, rfl⟩ := hw
    have hP : va_P D vwCl [(a_this, oX3 a_this_storage a_this_status a_this_channel a_this_registers a_this_first a_this_second o_this), (a_this_registers, .inl (k_this_registers, 16, .inl r_this_registers)), (a_this_status, oX5 o_this_status), (a_this_storage, oX6 a_this_storage_bytes a_this_storage_keys), (a_this_storage_bytes, .inl (k_this_storage_bytes, 2048, .inl r_this_storage_bytes))] H := hP
    have hD : va_D A [(a_this, oX3 a_this_storage a_this_status a_this_channel a_this_registers a_this_first a_this_second o_this), (a_this_registers, .inl (k_this_registers, 16, .inl r_this_registers)), (a_this_status, oX5 o_this_status), (a_this_storage, oX6 a_this_storage_bytes a_this_storage_keys), (a_this_storage_bytes, .inl (k_this_storage_bytes, 2048, .inl r_this_storage_bytes))] := hD
    refine q_Vi (rest := []) (c_X3_combine l D a_this a_this_registers a_this_status a_this_storage a_this_channel a_this_first a_this_second k_this_registers o_this r_this_registers o_this_status (f_X6_wordAt r_this_storage_bytes o_this.2.2.2.2.2.2.2.2.1)) cv_X3_combine hx hb hml hown ht hN hK hA hP hD hS hl.1 (km_X3_197) ⟨Nat.le_of_ble_eq_true rfl, Nat.le_of_ble_eq_true rfl⟩ rfl rfl [0, 1, 2] (by decide) rfl [0] rfl (fun _ => rfl) (ci := 3) rfl rfl rfl rfl rfl (Nat.le_of_ble_eq_true rfl) dX3_combineWord_26 ⟨Nat.zero_le _, Nat.zero_le _⟩ (fun r w_4 H locs hw hP hD hS => ?_)
    obtain ⟨hw, hr⟩ := hw
    subst hr
    have hP : va_P D vwCl [(a_this, oX3 a_this_storage a_this_status a_this_channel a_this_registers a_this_first a_this_second o_this), (a_this_registers, .inl (k_this_registers, 16, .inl w_4.2.1)), (a_this_status, oX5 w_4.2.2), (a_this_storage, oX6 a_this_storage_bytes a_this_storage_keys), (a_this_storage_bytes, .inl (k_this_storage_bytes, 2048, .inl r_this_storage_bytes))] H := hP
    have hD : va_D A [(a_this, oX3 a_this_storage a_this_status a_this_channel a_this_registers a_this_first a_this_second o_this), (a_this_registers, .inl (k_this_registers, 16, .inl w_4.2.1)), (a_this_status, oX5 w_4.2.2), (a_this_storage, oX6 a_this_storage_bytes a_this_storage_keys), (a_this_storage_bytes, .inl (k_this_storage_bytes, 2048, .inl r_this_storage_bytes))] := hD
    rw [q_let_of hw] at hF
    refine lv_goto (tgt := 33) hx hb dX3_combineWord_29 (by decide) ?_
    exact hQ w_4.1 (w_4.1, w_4.2.1, w_4.2.2) _ _ _ _ dX3_combineWord_33 ⟨hF.symm, rfl⟩ hP hD hS
theorem cv_X3_combineWord : qV yX3_combineWord cX3_combineWord 2 (some .int) 0 := ⟨kc_X3_combineWord, kt_X3_combineWord, ks_X3_combineWord, kn_X3, by decide, by decide +kernel⟩
def f_X3_convertToPacked (o_this : Bool × Int32 × Int32 × Int32 × Int32 × Int32 × Int32 × Int32 × Int32 × Int32) (o_this_first : Bool) (r_this_first_digits : Nat → Int32) (r_this_registers : Nat → Int32) (o_this_status : Int32 × Int32 × Int32 × Int32) (r_this_storage_bytes : Nat → Int32) (r_this_storage_keys : Nat → Int32) : Int32 × Bool × (Nat → Int32) × (Nat → Int32) := (if (f_X3_storeFault o_this_status r_this_storage_keys o_this.2.2.2.2.2.2.2.2.1 8 8) = 0 then (q_let (f_X1_becomeInt r_this_first_digits (f_X3_register r_this_registers o_this.2.2.2.2.2.2.1)) fun w_4 => (q_let (f_X1_putTo w_4.1 w_4.2 r_this_storage_bytes o_this.2.2.2.2.2.2.2.2.1 8) fun w_5 => ((f_X3_storeFault o_this_status r_this_storage_keys o_this.2.2.2.2.2.2.2.2.1 8 8), w_4.1, w_4.2, w_5.2))) else ((f_X3_storeFault o_this_status r_this_storage_keys o_this.2.2.2.2.2.2.2.2.1 8 8), o_this_first, r_this_first_digits, r_this_storage_bytes))
set_option linter.all false in
set_option maxHeartbeats 4000000 in
set_option maxRecDepth 100000 in
theorem c_X3_convertToPacked (l : Launch) (D : va_G) (a_this a_this_first a_this_first_digits a_this_registers a_this_status a_this_storage a_this_storage_bytes a_this_storage_keys a_this_channel a_this_second : Nat) (k_this_first_digits k_this_registers k_this_storage_bytes k_this_storage_keys : ClassId) (o_this : Bool × Int32 × Int32 × Int32 × Int32 × Int32 × Int32 × Int32 × Int32 × Int32) (o_this_first : Bool) (r_this_first_digits : Nat → Int32) (r_this_registers : Nat → Int32) (o_this_status : Int32 × Int32 × Int32 × Int32) (r_this_storage_bytes : Nat → Int32) (r_this_storage_keys : Nat → Int32) : CtI l yX3_convertToPacked cX3_convertToPacked 2 (some .int) { frames := 3, cells := 0, slots := 0, locals := 72 } D [.ref a_this] [(a_this, oX3 a_this_storage a_this_status a_this_channel a_this_registers a_this_first a_this_second o_this), (a_this_first, oX1 a_this_first_digits o_this_first), (a_this_first_digits, .inl (k_this_first_digits, 32, .inl r_this_first_digits)), (a_this_registers, .inl (k_this_registers, 16, .inl r_this_registers)), (a_this_status, oX5 o_this_status), (a_this_storage, oX6 a_this_storage_bytes a_this_storage_keys), (a_this_storage_bytes, .inl (k_this_storage_bytes, 2048, .inl r_this_storage_bytes)), (a_this_storage_keys, .inl (k_this_storage_keys, 8, .inl r_this_storage_keys))] [(k_this_first_digits, .int), (k_this_registers, .int), (k_this_storage_bytes, .byte), (k_this_storage_keys, .int)] (fun (r : Int32) (u : Int32 × Bool × (Nat → Int32) × (Nat → Int32)) => f_X3_convertToPacked o_this o_this_first r_this_first_digits r_this_registers o_this_status r_this_storage_bytes r_this_storage_keys = u ∧ r = u.1) (fun u => [(a_this, oX3 a_this_storage a_this_status a_this_channel a_this_registers a_this_first a_this_second o_this), (a_this_first, oX1 a_this_first_digits u.2.1), (a_this_first_digits, .inl (k_this_first_digits, 32, .inl u.2.2.1)), (a_this_registers, .inl (k_this_registers, 16, .inl r_this_registers)), (a_this_status, oX5 o_this_status), (a_this_storage, oX6 a_this_storage_bytes a_this_storage_keys), (a_this_storage_bytes, .inl (k_this_storage_bytes, 2048, .inl u.2.2.2)), (a_this_storage_keys, .inl (k_this_storage_keys, 8, .inl r_this_storage_keys))]) := by
  refine CtI.of (by decide) (Nat.le_of_ble_eq_true rfl) ?_
  intro p e s m below meth c A ls Q hE hP hD hS hl hQ
  obtain ⟨hx, hb, hml, hown, ht, hN, hK, hA⟩ := hE
  have hown : s.vm.findClass RX3 = some m.cls := hown
  have hl : lv_has ls 2 [(0, .ref a_this)] := hl
  obtain ⟨F, hF⟩ : ∃ F, f_X3_convertToPacked o_this o_this_first r_this_first_digits r_this_registers o_this_status r_this_storage_bytes r_this_storage_keys = F := ⟨_, rfl⟩
  rw [hF] at hQ
  unfold f_X3_convertToPacked at hF
  refine lv_aload_n hx hb dX3_convertToPacked_0 rfl (lv_at hl 0 rfl) ?_
  refine lv_aload_n hx hb dX3_convertToPacked_1 rfl (lv_at hl 0 rfl) ?_
  refine gf_X3_152 (v := .int o_this.2.2.2.2.2.2.2.2.1) hx hb hown ht hK hP 0 rfl rfl dX3_convertToPacked_2 ?_
  refine lv_bipush (v := 8) hx hb dX3_convertToPacked_5 (by decide) ?_
  refine lv_bipush (v := 8) hx hb dX3_convertToPacked_7 (by decide) ?_
  refine q_Vi (rest := []) (c_X3_storeFault l D a_this a_this_status a_this_storage a_this_storage_keys a_this_channel a_this_registers a_this_first a_this_second a_this_storage_bytes k_this_storage_keys o_this o_this_status r_this_storage_keys o_this.2.2.2.2.2.2.2.2.1 8 8) cv_X3_storeFault hx hb hml hown ht hN hK hA hP hD hS hl.1 (km_X3_264) ⟨Nat.le_of_ble_eq_true rfl, Nat.le_of_ble_eq_true rfl⟩ rfl rfl [0, 4, 5, 7] (by decide) rfl [3] rfl (fun _ => rfl) (ci := 3) rfl rfl rfl rfl rfl (Nat.le_of_ble_eq_true rfl) dX3_convertToPacked_9 ⟨Nat.zero_le _, Nat.zero_le _⟩ (fun r u H locs hw hP hD hS => ?_)
  obtain ⟨rfl, rfl⟩ := hw
  have hP : va_P D vwCl [(a_this, oX3 a_this_storage a_this_status a_this_channel a_this_registers a_this_first a_this_second o_this), (a_this_first, oX1 a_this_first_digits o_this_first), (a_this_first_digits, .inl (k_this_first_digits, 32, .inl r_this_first_digits)), (a_this_registers, .inl (k_this_registers, 16, .inl r_this_registers)), (a_this_status, oX5 o_this_status), (a_this_storage, oX6 a_this_storage_bytes a_this_storage_keys), (a_this_storage_bytes, .inl (k_this_storage_bytes, 2048, .inl r_this_storage_bytes)), (a_this_storage_keys, .inl (k_this_storage_keys, 8, .inl r_this_storage_keys))] H := hP
  have hD : va_D A [(a_this, oX3 a_this_storage a_this_status a_this_channel a_this_registers a_this_first a_this_second o_this), (a_this_first, oX1 a_this_first_digits o_this_first), (a_this_first_digits, .inl (k_this_first_digits, 32, .inl r_this_first_digits)), (a_this_registers, .inl (k_this_registers, 16, .inl r_this_registers)), (a_this_status, oX5 o_this_status), (a_this_storage, oX6 a_this_storage_bytes a_this_storage_keys), (a_this_storage_bytes, .inl (k_this_storage_bytes, 2048, .inl r_this_storage_bytes)), (a_this_storage_keys, .inl (k_this_storage_keys, 8, .inl r_this_storage_keys))] := hD
  refine lv_istore_n (lv' := [(1, .int (f_X3_storeFault o_this_status r_this_storage_keys o_this.2.2.2.2.2.2.2.2.1 8 8)), (0, .ref a_this)]) hx hb dX3_convertToPacked_12 rfl hl (by decide) rfl (fun ls hl => ?_)
  refine lv_iload_n hx hb dX3_convertToPacked_13 rfl (lv_at hl 0 rfl) ?_
  refine lv_if_ne (tgt := 50) hx hb dX3_convertToPacked_14 (by decide) (fun c_2 => ?_) (fun c_2 => ?_)
  · skip
    rw [if_neg c_2] at hF
    refine lv_iload_n hx hb dX3_convertToPacked_50 rfl (lv_at hl 0 rfl) ?_
    exact hQ (f_X3_storeFault o_this_status r_this_storage_keys o_this.2.2.2.2.2.2.2.2.1 8 8) ((f_X3_storeFault o_this_status r_this_storage_keys o_this.2.2.2.2.2.2.2.2.1 8 8), o_this_first, r_this_first_digits, r_this_storage_bytes) _ _ _ _ dX3_convertToPacked_51 ⟨hF.symm, rfl⟩ hP hD hS
  · skip
    rw [if_pos c_2] at hF
    refine lv_aload_n hx hb dX3_convertToPacked_17 rfl (lv_at hl 1 rfl) ?_
    refine gf_X3_39 (v := .ref a_this_first) hx hb hown ht hK hP 0 rfl rfl dX3_convertToPacked_18 ?_
    refine lv_aload_n hx hb dX3_convertToPacked_21 rfl (lv_at hl 1 rfl) ?_
    refine lv_aload_n hx hb dX3_convertToPacked_22 rfl (lv_at hl 1 rfl) ?_
    refine gf_X3_142 (v := .int o_this.2.2.2.2.2.2.1) hx hb hown ht hK hP 0 rfl rfl dX3_convertToPacked_23 ?_
    refine q_Vi (rest := [.ref a_this_first]) (c_X3_register l D a_this a_this_registers a_this_storage a_this_status a_this_channel a_this_first a_this_second k_this_registers o_this r_this_registers o_this.2.2.2.2.2.2.1) cv_X3_register hx hb hml hown ht hN hK hA hP hD hS hl.1 (km_X3_161) ⟨Nat.le_of_ble_eq_true rfl, Nat.le_of_ble_eq_true rfl⟩ rfl rfl [0, 3] (by decide) rfl [1] rfl (fun _ => rfl) (ci := 3) rfl rfl rfl rfl rfl (Nat.le_of_ble_eq_true rfl) dX3_convertToPacked_26 ⟨Nat.zero_le _, Nat.zero_le _⟩ (fun r u H locs hw hP hD hS => ?_)
    obtain ⟨rfl, rfl⟩ := hw
    have hP : va_P D vwCl [(a_this, oX3 a_this_storage a_this_status a_this_channel a_this_registers a_this_first a_this_second o_this), (a_this_first, oX1 a_this_first_digits o_this_first), (a_this_first_digits, .inl (k_this_first_digits, 32, .inl r_this_first_digits)), (a_this_registers, .inl (k_this_registers, 16, .inl r_this_registers)), (a_this_status, oX5 o_this_status), (a_this_storage, oX6 a_this_storage_bytes a_this_storage_keys), (a_this_storage_bytes, .inl (k_this_storage_bytes, 2048, .inl r_this_storage_bytes)), (a_this_storage_keys, .inl (k_this_storage_keys, 8, .inl r_this_storage_keys))] H := hP
    have hD : va_D A [(a_this, oX3 a_this_storage a_this_status a_this_channel a_this_registers a_this_first a_this_second o_this), (a_this_first, oX1 a_this_first_digits o_this_first), (a_this_first_digits, .inl (k_this_first_digits, 32, .inl r_this_first_digits)), (a_this_registers, .inl (k_this_registers, 16, .inl r_this_registers)), (a_this_status, oX5 o_this_status), (a_this_storage, oX6 a_this_storage_bytes a_this_storage_keys), (a_this_storage_bytes, .inl (k_this_storage_bytes, 2048, .inl r_this_storage_bytes)), (a_this_storage_keys, .inl (k_this_storage_keys, 8, .inl r_this_storage_keys))] := hD
    refine q_Vv (rest := []) (c_X1_becomeInt l D a_this_first a_this_first_digits k_this_first_digits o_this_first r_this_first_digits (f_X3_register r_this_registers o_this.2.2.2.2.2.2.1)) cv_X1_becomeInt hx hb hml hown ht hN hK hA hP hD hS hl.1 (km_X3_273) ⟨Nat.le_of_ble_eq_true rfl, Nat.le_of_ble_eq_true rfl⟩ rfl rfl [1, 2] (by decide) rfl [0] rfl (fun _ => rfl) (ci := 1) rfl rfl rfl rfl rfl (Nat.le_of_ble_eq_true rfl) dX3_convertToPacked_29 ⟨Nat.zero_le _, Nat.zero_le _⟩ (fun w_4 H locs hw hP hD hS => ?_)
    have hP : va_P D vwCl [(a_this, oX3 a_this_storage a_this_status a_this_channel a_this_registers a_this_first a_this_second o_this), (a_this_first, oX1 a_this_first_digits w_4.1), (a_this_first_digits, .inl (k_this_first_digits, 32, .inl w_4.2)), (a_this_registers, .inl (k_this_registers, 16, .inl r_this_registers)), (a_this_status, oX5 o_this_status), (a_this_storage, oX6 a_this_storage_bytes a_this_storage_keys), (a_this_storage_bytes, .inl (k_this_storage_bytes, 2048, .inl r_this_storage_bytes)), (a_this_storage_keys, .inl (k_this_storage_keys, 8, .inl r_this_storage_keys))] H := hP
    have hD : va_D A [(a_this, oX3 a_this_storage a_this_status a_this_channel a_this_registers a_this_first a_this_second o_this), (a_this_first, oX1 a_this_first_digits w_4.1), (a_this_first_digits, .inl (k_this_first_digits, 32, .inl w_4.2)), (a_this_registers, .inl (k_this_registers, 16, .inl r_this_registers)), (a_this_status, oX5 o_this_status), (a_this_storage, oX6 a_this_storage_bytes a_this_storage_keys), (a_this_storage_bytes, .inl (k_this_storage_bytes, 2048, .inl r_this_storage_bytes)), (a_this_storage_keys, .inl (k_this_storage_keys, 8, .inl r_this_storage_keys))] := hD
    rw [q_let_of hw] at hF
    refine lv_aload_n hx hb dX3_convertToPacked_32 rfl (lv_at hl 1 rfl) ?_
    refine gf_X3_39 (v := .ref a_this_first) hx hb hown ht hK hP 0 rfl rfl dX3_convertToPacked_33 ?_
    refine lv_aload_n hx hb dX3_convertToPacked_36 rfl (lv_at hl 1 rfl) ?_
    refine gf_X3_12 (v := .ref a_this_storage) hx hb hown ht hK hP 0 rfl rfl dX3_convertToPacked_37 ?_
    refine lv_aload_n hx hb dX3_convertToPacked_40 rfl (lv_at hl 1 rfl) ?_
    refine gf_X3_152 (v := .int o_this.2.2.2.2.2.2.2.2.1) hx hb hown ht hK hP 0 rfl rfl dX3_convertToPacked_41 ?_
    refine lv_bipush (v := 8) hx hb dX3_convertToPacked_44 (by decide) ?_
    refine q_Vi (rest := []) (c_X1_putTo l D a_this_first a_this_first_digits a_this_storage a_this_storage_bytes a_this_storage_keys k_this_first_digits k_this_storage_bytes w_4.1 w_4.2 r_this_storage_bytes o_this.2.2.2.2.2.2.2.2.1 8) cv_X1_putTo hx hb hml hown ht hN hK hA hP hD hS hl.1 (km_X3_276) ⟨Nat.le_of_ble_eq_true rfl, Nat.le_of_ble_eq_true rfl⟩ rfl rfl [1, 2, 5, 6] (by decide) rfl [0, 2] rfl (fun _ => rfl) (ci := 1) rfl rfl rfl rfl rfl (Nat.le_of_ble_eq_true rfl) dX3_convertToPacked_46 ⟨Nat.zero_le _, Nat.zero_le _⟩ (fun r w_5 H locs hw hP hD hS => ?_)
    obtain ⟨hw, hr⟩ := hw
    subst hr
    have hP : va_P D vwCl [(a_this, oX3 a_this_storage a_this_status a_this_channel a_this_registers a_this_first a_this_second o_this), (a_this_first, oX1 a_this_first_digits w_4.1), (a_this_first_digits, .inl (k_this_first_digits, 32, .inl w_4.2)), (a_this_registers, .inl (k_this_registers, 16, .inl r_this_registers)), (a_this_status, oX5 o_this_status), (a_this_storage, oX6 a_this_storage_bytes a_this_storage_keys), (a_this_storage_bytes, .inl (k_this_storage_bytes, 2048, .inl w_5.2)), (a_this_storage_keys, .inl (k_this_storage_keys, 8, .inl r_this_storage_keys))] H := hP
    have hD : va_D A [(a_this, oX3 a_this_storage a_this_status a_this_channel a_this_registers a_this_first a_this_second o_this), (a_this_first, oX1 a_this_first_digits w_4.1), (a_this_first_digits, .inl (k_this_first_digits, 32, .inl w_4.2)), (a_this_registers, .inl (k_this_registers, 16, .inl r_this_registers)), (a_this_status, oX5 o_this_status), (a_this_storage, oX6 a_this_storage_bytes a_this_storage_keys), (a_this_storage_bytes, .inl (k_this_storage_bytes, 2048, .inl w_5.2)), (a_this_storage_keys, .inl (k_this_storage_keys, 8, .inl r_this_storage_keys))] := hD
    rw [q_let_of hw] at hF
    refine lv_pop hx hb dX3_convertToPacked_49 rfl ?_
    refine lv_iload_n hx hb dX3_convertToPacked_50 rfl (lv_at hl 0 rfl) ?_
    exact hQ (f_X3_storeFault o_this_status r_this_storage_keys o_this.2.2.2.2.2.2.2.2.1 8 8) ((f_X3_storeFault o_this_status r_this_storage_keys o_this.2.2.2.2.2.2.2.2.1 8 8), w_4.1, w_4.2, w_5.2) _ _ _ _ dX3_convertToPacked_51 ⟨hF.symm, rfl⟩ hP hD hS
theorem cv_X3_convertToPacked : qV yX3_convertToPacked cX3_convertToPacked 2 (some .int) 0 := ⟨kc_X3_convertToPacked, kt_X3_convertToPacked, ks_X3_convertToPacked, kn_X3, by decide, by decide +kernel⟩
def f_X3_convertToInt (o_this : Bool × Int32 × Int32 × Int32 × Int32 × Int32 × Int32 × Int32 × Int32 × Int32) (o_this_first : Bool) (r_this_first_digits : Nat → Int32) (r_this_registers : Nat → Int32) (r_this_storage_bytes : Nat → Int32) : Int32 × Bool × (Nat → Int32) × (Nat → Int32) := (if (f_X3_readFault o_this.2.2.2.2.2.2.2.2.1 8 8) = 0 then (q_let (f_X1_takeFrom o_this_first r_this_first_digits r_this_storage_bytes o_this.2.2.2.2.2.2.2.2.1 8) fun w_3 => (if w_3.1 = true then (if (lg_cmp (f_X1_value w_3.2.1 w_3.2.2) (((f_X1_value w_3.2.1 w_3.2.2).toInt32).toInt64)) = 0 then (q_let (f_X3_putRegister r_this_registers o_this.2.2.2.2.2.2.1 ((f_X1_value w_3.2.1 w_3.2.2).toInt32)) fun w_7 => (0, w_3.2.1, w_3.2.2, w_7)) else (9, w_3.2.1, w_3.2.2, r_this_registers)) else (7, w_3.2.1, w_3.2.2, r_this_registers))) else ((f_X3_readFault o_this.2.2.2.2.2.2.2.2.1 8 8), o_this_first, r_this_first_digits, r_this_registers))
set_option linter.all false in
set_option maxHeartbeats 4000000 in
set_option maxRecDepth 100000 in
theorem c_X3_convertToInt (l : Launch) (D : va_G) (a_this a_this_first a_this_first_digits a_this_registers a_this_storage a_this_storage_bytes a_this_status a_this_channel a_this_second a_this_storage_keys : Nat) (k_this_first_digits k_this_registers k_this_storage_bytes : ClassId) (o_this : Bool × Int32 × Int32 × Int32 × Int32 × Int32 × Int32 × Int32 × Int32 × Int32) (o_this_first : Bool) (r_this_first_digits : Nat → Int32) (r_this_registers : Nat → Int32) (r_this_storage_bytes : Nat → Int32) : CtI l yX3_convertToInt cX3_convertToInt 4 (some .int) { frames := 3, cells := 0, slots := 0, locals := 69 } D [.ref a_this] [(a_this, oX3 a_this_storage a_this_status a_this_channel a_this_registers a_this_first a_this_second o_this), (a_this_first, oX1 a_this_first_digits o_this_first), (a_this_first_digits, .inl (k_this_first_digits, 32, .inl r_this_first_digits)), (a_this_registers, .inl (k_this_registers, 16, .inl r_this_registers)), (a_this_storage, oX6 a_this_storage_bytes a_this_storage_keys), (a_this_storage_bytes, .inl (k_this_storage_bytes, 2048, .inl r_this_storage_bytes))] [(k_this_first_digits, .int), (k_this_registers, .int), (k_this_storage_bytes, .byte)] (fun (r : Int32) (u : Int32 × Bool × (Nat → Int32) × (Nat → Int32)) => f_X3_convertToInt o_this o_this_first r_this_first_digits r_this_registers r_this_storage_bytes = u ∧ r = u.1) (fun u => [(a_this, oX3 a_this_storage a_this_status a_this_channel a_this_registers a_this_first a_this_second o_this), (a_this_first, oX1 a_this_first_digits u.2.1), (a_this_first_digits, .inl (k_this_first_digits, 32, .inl u.2.2.1)), (a_this_registers, .inl (k_this_registers, 16, .inl u.2.2.2)), (a_this_storage, oX6 a_this_storage_bytes a_this_storage_keys), (a_this_storage_bytes, .inl (k_this_storage_bytes, 2048, .inl r_this_storage_bytes))]) := by
  refine CtI.of (by decide) (Nat.le_of_ble_eq_true rfl) ?_
  intro p e s m below meth c A ls Q hE hP hD hS hl hQ
  obtain ⟨hx, hb, hml, hown, ht, hN, hK, hA⟩ := hE
  have hown : s.vm.findClass RX3 = some m.cls := hown
  have hl : lv_has ls 4 [(0, .ref a_this)] := hl
  obtain ⟨F, hF⟩ : ∃ F, f_X3_convertToInt o_this o_this_first r_this_first_digits r_this_registers r_this_storage_bytes = F := ⟨_, rfl⟩
  rw [hF] at hQ
  unfold f_X3_convertToInt at hF
  refine lv_aload_n hx hb dX3_convertToInt_0 rfl (lv_at hl 0 rfl) ?_
  refine gf_X3_152 (v := .int o_this.2.2.2.2.2.2.2.2.1) hx hb hown ht hK hP 0 rfl rfl dX3_convertToInt_1 ?_
  refine lv_bipush (v := 8) hx hb dX3_convertToInt_4 (by decide) ?_
  refine lv_bipush (v := 8) hx hb dX3_convertToInt_6 (by decide) ?_
  refine q_Si (rest := []) (c_X3_readFault l D o_this.2.2.2.2.2.2.2.2.1 8 8) cv_X3_readFault hx hb hml hown ht hN hK hA hP hD hS hl.1 (km_X3_165) ⟨Nat.le_of_ble_eq_true rfl, Nat.le_of_ble_eq_true rfl⟩ rfl rfl [] (by decide) rfl [] rfl (fun _ => rfl) rfl rfl (Nat.le_of_ble_eq_true rfl) dX3_convertToInt_8 ⟨Nat.zero_le _, Nat.zero_le _⟩ (fun r u H locs hw hP hD hS => ?_)
  obtain ⟨rfl, rfl⟩ := hw
  have hP : va_P D vwCl [(a_this, oX3 a_this_storage a_this_status a_this_channel a_this_registers a_this_first a_this_second o_this), (a_this_first, oX1 a_this_first_digits o_this_first), (a_this_first_digits, .inl (k_this_first_digits, 32, .inl r_this_first_digits)), (a_this_registers, .inl (k_this_registers, 16, .inl r_this_registers)), (a_this_storage, oX6 a_this_storage_bytes a_this_storage_keys), (a_this_storage_bytes, .inl (k_this_storage_bytes, 2048, .inl r_this_storage_bytes))] H := hP
  have hD : va_D A [(a_this, oX3 a_this_storage a_this_status a_this_channel a_this_registers a_this_first a_this_second o_this), (a_this_first, oX1 a_this_first_digits o_this_first), (a_this_first_digits, .inl (k_this_first_digits, 32, .inl r_this_first_digits)), (a_this_registers, .inl (k_this_registers, 16, .inl r_this_registers)), (a_this_storage, oX6 a_this_storage_bytes a_this_storage_keys), (a_this_storage_bytes, .inl (k_this_storage_bytes, 2048, .inl r_this_storage_bytes))] := hD
  refine lv_istore_n (lv' := [(1, .int (f_X3_readFault o_this.2.2.2.2.2.2.2.2.1 8 8)), (0, .ref a_this)]) hx hb dX3_convertToInt_11 rfl hl (by decide) rfl (fun ls hl => ?_)
  refine lv_iload_n hx hb dX3_convertToInt_12 rfl (lv_at hl 0 rfl) ?_
  refine lv_if_eq (tgt := 18) hx hb dX3_convertToInt_13 (by decide) (fun c_2 => ?_) (fun c_2 => ?_)
  · skip
    rw [if_pos c_2] at hF
    refine lv_aload_n hx hb dX3_convertToInt_18 rfl (lv_at hl 1 rfl) ?_
    refine gf_X3_39 (v := .ref a_this_first) hx hb hown ht hK hP 0 rfl rfl dX3_convertToInt_19 ?_
    refine lv_aload_n hx hb dX3_convertToInt_22 rfl (lv_at hl 1 rfl) ?_
    refine gf_X3_12 (v := .ref a_this_storage) hx hb hown ht hK hP 0 rfl rfl dX3_convertToInt_23 ?_
    refine lv_aload_n hx hb dX3_convertToInt_26 rfl (lv_at hl 1 rfl) ?_
    refine gf_X3_152 (v := .int o_this.2.2.2.2.2.2.2.2.1) hx hb hown ht hK hP 0 rfl rfl dX3_convertToInt_27 ?_
    refine lv_bipush (v := 8) hx hb dX3_convertToInt_30 (by decide) ?_
    refine q_Vi (rest := []) (c_X1_takeFrom l D a_this_first a_this_first_digits a_this_storage a_this_storage_bytes a_this_storage_keys k_this_first_digits k_this_storage_bytes o_this_first r_this_first_digits r_this_storage_bytes o_this.2.2.2.2.2.2.2.2.1 8) cv_X1_takeFrom hx hb hml hown ht hN hK hA hP hD hS hl.1 (km_X3_279) ⟨Nat.le_of_ble_eq_true rfl, Nat.le_of_ble_eq_true rfl⟩ rfl rfl [1, 2, 4, 5] (by decide) rfl [0, 2] rfl (fun _ => rfl) (ci := 1) rfl rfl rfl rfl rfl (Nat.le_of_ble_eq_true rfl) dX3_convertToInt_32 ⟨Nat.zero_le _, Nat.zero_le _⟩ (fun r w_3 H locs hw hP hD hS => ?_)
    obtain ⟨hw, hr⟩ := hw
    subst hr
    have hP : va_P D vwCl [(a_this, oX3 a_this_storage a_this_status a_this_channel a_this_registers a_this_first a_this_second o_this), (a_this_first, oX1 a_this_first_digits w_3.2.1), (a_this_first_digits, .inl (k_this_first_digits, 32, .inl w_3.2.2)), (a_this_registers, .inl (k_this_registers, 16, .inl r_this_registers)), (a_this_storage, oX6 a_this_storage_bytes a_this_storage_keys), (a_this_storage_bytes, .inl (k_this_storage_bytes, 2048, .inl r_this_storage_bytes))] H := hP
    have hD : va_D A [(a_this, oX3 a_this_storage a_this_status a_this_channel a_this_registers a_this_first a_this_second o_this), (a_this_first, oX1 a_this_first_digits w_3.2.1), (a_this_first_digits, .inl (k_this_first_digits, 32, .inl w_3.2.2)), (a_this_registers, .inl (k_this_registers, 16, .inl r_this_registers)), (a_this_storage, oX6 a_this_storage_bytes a_this_storage_keys), (a_this_storage_bytes, .inl (k_this_storage_bytes, 2048, .inl r_this_storage_bytes))] := hD
    rw [q_let_of hw] at hF
    refine lv_if_ne (tgt := 41) hx hb dX3_convertToInt_35 (by decide) (fun c_4 => ?_) (fun c_4 => ?_)
    · have c_4 := (bI_ne0 _).mp c_4
      rw [if_pos c_4] at hF
      refine lv_aload_n hx hb dX3_convertToInt_41 rfl (lv_at hl 1 rfl) ?_
      refine gf_X3_39 (v := .ref a_this_first) hx hb hown ht hK hP 0 rfl rfl dX3_convertToInt_42 ?_
      refine q_Vl (rest := []) (c_X1_value l D a_this_first a_this_first_digits k_this_first_digits w_3.2.1 w_3.2.2) cv_X1_value hx hb hml hown ht hN hK hA hP hD hS hl.1 (km_X3_282) ⟨Nat.le_of_ble_eq_true rfl, Nat.le_of_ble_eq_true rfl⟩ rfl rfl [1, 2] (by decide) rfl [0] rfl (fun _ => rfl) (ci := 1) rfl rfl rfl rfl rfl (Nat.le_of_ble_eq_true rfl) dX3_convertToInt_45 ⟨Nat.zero_le _, Nat.zero_le _⟩ (fun r u H locs hw hP hD hS => ?_)
      obtain ⟨rfl, rfl⟩ := hw
      have hP : va_P D vwCl [(a_this, oX3 a_this_storage a_this_status a_this_channel a_this_registers a_this_first a_this_second o_this), (a_this_first, oX1 a_this_first_digits w_3.2.1), (a_this_first_digits, .inl (k_this_first_digits, 32, .inl w_3.2.2)), (a_this_registers, .inl (k_this_registers, 16, .inl r_this_registers)), (a_this_storage, oX6 a_this_storage_bytes a_this_storage_keys), (a_this_storage_bytes, .inl (k_this_storage_bytes, 2048, .inl r_this_storage_bytes))] H := hP
      have hD : va_D A [(a_this, oX3 a_this_storage a_this_status a_this_channel a_this_registers a_this_first a_this_second o_this), (a_this_first, oX1 a_this_first_digits w_3.2.1), (a_this_first_digits, .inl (k_this_first_digits, 32, .inl w_3.2.2)), (a_this_registers, .inl (k_this_registers, 16, .inl r_this_registers)), (a_this_storage, oX6 a_this_storage_bytes a_this_storage_keys), (a_this_storage_bytes, .inl (k_this_storage_bytes, 2048, .inl r_this_storage_bytes))] := hD
      refine lv_lstore_n (lv' := [(2, .long (f_X1_value w_3.2.1 w_3.2.2)), (1, .int (f_X3_readFault o_this.2.2.2.2.2.2.2.2.1 8 8)), (0, .ref a_this)]) hx hb dX3_convertToInt_48 rfl hl (by decide) rfl (fun ls hl => ?_)
      refine lv_lload_n hx hb dX3_convertToInt_49 rfl (lv_at hl 0 rfl) ?_
      refine lv_lload_n hx hb dX3_convertToInt_50 rfl (lv_at hl 0 rfl) ?_
      refine lv_l2i hx hb dX3_convertToInt_51 rfl ?_
      refine lv_i2l hx hb dX3_convertToInt_52 rfl ?_
      refine W.lcmp hx hb dX3_convertToInt_53 ?_
      refine lv_if_eq (tgt := 60) hx hb dX3_convertToInt_54 (by decide) (fun c_6 => ?_) (fun c_6 => ?_)
      · skip
        rw [if_pos c_6] at hF
        refine lv_aload_n hx hb dX3_convertToInt_60 rfl (lv_at hl 2 rfl) ?_
        refine lv_aload_n hx hb dX3_convertToInt_61 rfl (lv_at hl 2 rfl) ?_
        refine gf_X3_142 (v := .int o_this.2.2.2.2.2.2.1) hx hb hown ht hK hP 0 rfl rfl dX3_convertToInt_62 ?_
        refine lv_lload_n hx hb dX3_convertToInt_65 rfl (lv_at hl 0 rfl) ?_
        refine lv_l2i hx hb dX3_convertToInt_66 rfl ?_
        refine q_Vv (rest := []) (c_X3_putRegister l D a_this a_this_registers a_this_storage a_this_status a_this_channel a_this_first a_this_second k_this_registers o_this r_this_registers o_this.2.2.2.2.2.2.1 ((f_X1_value w_3.2.1 w_3.2.2).toInt32)) cv_X3_putRegister hx hb hml hown ht hN hK hA hP hD hS hl.1 (km_X3_206) ⟨Nat.le_of_ble_eq_true rfl, Nat.le_of_ble_eq_true rfl⟩ rfl rfl [0, 3] (by decide) rfl [1] rfl (fun _ => rfl) (ci := 3) rfl rfl rfl rfl rfl (Nat.le_of_ble_eq_true rfl) dX3_convertToInt_67 ⟨Nat.zero_le _, Nat.zero_le _⟩ (fun w_7 H locs hw hP hD hS => ?_)
        have hP : va_P D vwCl [(a_this, oX3 a_this_storage a_this_status a_this_channel a_this_registers a_this_first a_this_second o_this), (a_this_first, oX1 a_this_first_digits w_3.2.1), (a_this_first_digits, .inl (k_this_first_digits, 32, .inl w_3.2.2)), (a_this_registers, .inl (k_this_registers, 16, .inl w_7)), (a_this_storage, oX6 a_this_storage_bytes a_this_storage_keys), (a_this_storage_bytes, .inl (k_this_storage_bytes, 2048, .inl r_this_storage_bytes))] H := hP
        have hD : va_D A [(a_this, oX3 a_this_storage a_this_status a_this_channel a_this_registers a_this_first a_this_second o_this), (a_this_first, oX1 a_this_first_digits w_3.2.1), (a_this_first_digits, .inl (k_this_first_digits, 32, .inl w_3.2.2)), (a_this_registers, .inl (k_this_registers, 16, .inl w_7)), (a_this_storage, oX6 a_this_storage_bytes a_this_storage_keys), (a_this_storage_bytes, .inl (k_this_storage_bytes, 2048, .inl r_this_storage_bytes))] := hD
        rw [q_let_of hw] at hF
        refine lv_iconst (v := 0) hx hb dX3_convertToInt_70 (by decide) ?_
        exact hQ 0 (0, w_3.2.1, w_3.2.2, w_7) _ _ _ _ dX3_convertToInt_71 ⟨hF.symm, rfl⟩ hP hD hS
      · skip
        rw [if_neg c_6] at hF
        refine lv_bipush (v := 9) hx hb dX3_convertToInt_57 (by decide) ?_
        exact hQ 9 (9, w_3.2.1, w_3.2.2, r_this_registers) _ _ _ _ dX3_convertToInt_59 ⟨hF.symm, rfl⟩ hP hD hS
    · have c_4 : ¬ w_3.1 = true := by rw [(bI_eq0 _).mp c_4]; decide
      rw [if_neg c_4] at hF
      refine lv_bipush (v := 7) hx hb dX3_convertToInt_38 (by decide) ?_
      exact hQ 7 (7, w_3.2.1, w_3.2.2, r_this_registers) _ _ _ _ dX3_convertToInt_40 ⟨hF.symm, rfl⟩ hP hD hS
  · skip
    rw [if_neg c_2] at hF
    refine lv_iload_n hx hb dX3_convertToInt_16 rfl (lv_at hl 0 rfl) ?_
    exact hQ (f_X3_readFault o_this.2.2.2.2.2.2.2.2.1 8 8) ((f_X3_readFault o_this.2.2.2.2.2.2.2.2.1 8 8), o_this_first, r_this_first_digits, r_this_registers) _ _ _ _ dX3_convertToInt_17 ⟨hF.symm, rfl⟩ hP hD hS
theorem cv_X3_convertToInt : qV yX3_convertToInt cX3_convertToInt 4 (some .int) 0 := ⟨kc_X3_convertToInt, kt_X3_convertToInt, ks_X3_convertToInt, kn_X3, by decide, by decide +kernel⟩
def f_X3_shift (o_this : Bool × Int32 × Int32 × Int32 × Int32 × Int32 × Int32 × Int32 × Int32 × Int32) (r_this_registers : Nat → Int32) (p1 : Int32) (p2 : Int32) : Int32 × (Nat → Int32) := (if (o_this.2.2.2.2.2.2.2.2.1 &&& (32 : Int32)) = 0 then (q_let (f_X3_putRegister r_this_registers o_this.2.2.2.2.2.2.1 p1) fun w_3 => (0, w_3)) else (q_let (f_X3_putRegister r_this_registers o_this.2.2.2.2.2.2.1 p2) fun w_2 => (0, w_2)))
set_option linter.all false in
set_option maxHeartbeats 4000000 in
set_option maxRecDepth 100000 in
theorem c_X3_shift (l : Launch) (D : va_G) (a_this a_this_registers a_this_storage a_this_status a_this_channel a_this_first a_this_second : Nat) (k_this_registers : ClassId) (o_this : Bool × Int32 × Int32 × Int32 × Int32 × Int32 × Int32 × Int32 × Int32 × Int32) (r_this_registers : Nat → Int32) (p1 : Int32) (p2 : Int32) : CtI l yX3_shift cX3_shift 3 (some .int) { frames := 1, cells := 0, slots := 0, locals := 22 } D [.ref a_this, .int p1, .int p2] [(a_this, oX3 a_this_storage a_this_status a_this_channel a_this_registers a_this_first a_this_second o_this), (a_this_registers, .inl (k_this_registers, 16, .inl r_this_registers))] [(k_this_registers, .int)] (fun (r : Int32) (u : Int32 × (Nat → Int32)) => f_X3_shift o_this r_this_registers p1 p2 = u ∧ r = u.1) (fun u => [(a_this, oX3 a_this_storage a_this_status a_this_channel a_this_registers a_this_first a_this_second o_this), (a_this_registers, .inl (k_this_registers, 16, .inl u.2))]) := by
  refine CtI.of (by decide) (Nat.le_of_ble_eq_true rfl) ?_
  intro p e s m below meth c A ls Q hE hP hD hS hl hQ
  obtain ⟨hx, hb, hml, hown, ht, hN, hK, hA⟩ := hE
  have hown : s.vm.findClass RX3 = some m.cls := hown
  have hl : lv_has ls 3 [(0, .ref a_this), (1, .int p1), (2, .int p2)] := hl
  obtain ⟨F, hF⟩ : ∃ F, f_X3_shift o_this r_this_registers p1 p2 = F := ⟨_, rfl⟩
  rw [hF] at hQ
  unfold f_X3_shift at hF
  refine lv_aload_n hx hb dX3_shift_0 rfl (lv_at hl 0 rfl) ?_
  refine lv_aload_n hx hb dX3_shift_1 rfl (lv_at hl 0 rfl) ?_
  refine gf_X3_142 (v := .int o_this.2.2.2.2.2.2.1) hx hb hown ht hK hP 0 rfl rfl dX3_shift_2 ?_
  refine lv_aload_n hx hb dX3_shift_5 rfl (lv_at hl 0 rfl) ?_
  refine gf_X3_152 (v := .int o_this.2.2.2.2.2.2.2.2.1) hx hb hown ht hK hP 0 rfl rfl dX3_shift_6 ?_
  refine lv_bipush (v := 32) hx hb dX3_shift_9 (by decide) ?_
  refine lv_iand hx hb dX3_shift_11 ?_
  refine lv_if_ne (tgt := 19) hx hb dX3_shift_12 (by decide) (fun c_1 => ?_) (fun c_1 => ?_)
  · skip
    rw [if_neg c_1] at hF
    refine lv_iload_n hx hb dX3_shift_19 rfl (lv_at hl 2 rfl) ?_
    refine q_Vv (rest := []) (c_X3_putRegister l D a_this a_this_registers a_this_storage a_this_status a_this_channel a_this_first a_this_second k_this_registers o_this r_this_registers o_this.2.2.2.2.2.2.1 p2) cv_X3_putRegister hx hb hml hown ht hN hK hA hP hD hS hl.1 (km_X3_206) ⟨Nat.le_of_ble_eq_true rfl, Nat.le_of_ble_eq_true rfl⟩ rfl rfl [0, 1] (by decide) rfl [0] rfl (fun _ => rfl) (ci := 3) rfl rfl rfl rfl rfl (Nat.le_of_ble_eq_true rfl) dX3_shift_20 ⟨Nat.zero_le _, Nat.zero_le _⟩ (fun w_2 H locs hw hP hD hS => ?_)
    have hP : va_P D vwCl [(a_this, oX3 a_this_storage a_this_status a_this_channel a_this_registers a_this_first a_this_second o_this), (a_this_registers, .inl (k_this_registers, 16, .inl w_2))] H := hP
    have hD : va_D A [(a_this, oX3 a_this_storage a_this_status a_this_channel a_this_registers a_this_first a_this_second o_this), (a_this_registers, .inl (k_this_registers, 16, .inl w_2))] := hD
    rw [q_let_of hw] at hF
    refine lv_iconst (v := 0) hx hb dX3_shift_23 (by decide) ?_
    exact hQ 0 (0, w_2) _ _ _ _ dX3_shift_24 ⟨hF.symm, rfl⟩ hP hD hS
  · skip
    rw [if_pos c_1] at hF
    refine lv_iload_n hx hb dX3_shift_15 rfl (lv_at hl 1 rfl) ?_
    refine lv_goto (tgt := 20) hx hb dX3_shift_16 (by decide) ?_
    refine q_Vv (rest := []) (c_X3_putRegister l D a_this a_this_registers a_this_storage a_this_status a_this_channel a_this_first a_this_second k_this_registers o_this r_this_registers o_this.2.2.2.2.2.2.1 p1) cv_X3_putRegister hx hb hml hown ht hN hK hA hP hD hS hl.1 (km_X3_206) ⟨Nat.le_of_ble_eq_true rfl, Nat.le_of_ble_eq_true rfl⟩ rfl rfl [0, 1] (by decide) rfl [0] rfl (fun _ => rfl) (ci := 3) rfl rfl rfl rfl rfl (Nat.le_of_ble_eq_true rfl) dX3_shift_20 ⟨Nat.zero_le _, Nat.zero_le _⟩ (fun w_3 H locs hw hP hD hS => ?_)
    have hP : va_P D vwCl [(a_this, oX3 a_this_storage a_this_status a_this_channel a_this_registers a_this_first a_this_second o_this), (a_this_registers, .inl (k_this_registers, 16, .inl w_3))] H := hP
    have hD : va_D A [(a_this, oX3 a_this_storage a_this_status a_this_channel a_this_registers a_this_first a_this_second o_this), (a_this_registers, .inl (k_this_registers, 16, .inl w_3))] := hD
    rw [q_let_of hw] at hF
    refine lv_iconst (v := 0) hx hb dX3_shift_23 (by decide) ?_
    exact hQ 0 (0, w_3) _ _ _ _ dX3_shift_24 ⟨hF.symm, rfl⟩ hP hD hS
theorem cv_X3_shift : qV yX3_shift cX3_shift 3 (some .int) 2 := ⟨kc_X3_shift, kt_X3_shift, ks_X3_shift, kn_X3, by decide, by decide +kernel⟩
def f_X3_shiftWithSign (o_this : Bool × Int32 × Int32 × Int32 × Int32 × Int32 × Int32 × Int32 × Int32 × Int32) (r_this_registers : Nat → Int32) (o_this_status : Int32 × Int32 × Int32 × Int32) : Int32 × (Nat → Int32) × (Int32 × Int32 × Int32 × Int32) := (q_let (f_X3_shift o_this r_this_registers ((f_X3_register r_this_registers o_this.2.2.2.2.2.2.1) >>> ((o_this.2.2.2.2.2.2.2.2.1 &&& (31 : Int32)) &&& 31)) ((f_X3_register r_this_registers o_this.2.2.2.2.2.2.1) >>> ((31 : Int32) &&& 31))) fun w_3 => (0, w_3.2, (o_this_status.1, o_this_status.2.1, (f_X7_order ((f_X3_register w_3.2 o_this.2.2.2.2.2.2.1).toInt64) 0), o_this_status.2.2.2)))
set_option linter.all false in
set_option maxHeartbeats 4000000 in
set_option maxRecDepth 100000 in
theorem c_X3_shiftWithSign (l : Launch) (D : va_G) (a_this a_this_registers a_this_status a_this_storage a_this_channel a_this_first a_this_second : Nat) (k_this_registers : ClassId) (o_this : Bool × Int32 × Int32 × Int32 × Int32 × Int32 × Int32 × Int32 × Int32 × Int32) (r_this_registers : Nat → Int32) (o_this_status : Int32 × Int32 × Int32 × Int32) : CtI l yX3_shiftWithSign cX3_shiftWithSign 1 (some .int) { frames := 2, cells := 0, slots := 0, locals := 44 } D [.ref a_this] [(a_this, oX3 a_this_storage a_this_status a_this_channel a_this_registers a_this_first a_this_second o_this), (a_this_registers, .inl (k_this_registers, 16, .inl r_this_registers)), (a_this_status, oX5 o_this_status)] [(k_this_registers, .int)] (fun (r : Int32) (u : Int32 × (Nat → Int32) × (Int32 × Int32 × Int32 × Int32)) => f_X3_shiftWithSign o_this r_this_registers o_this_status = u ∧ r = u.1) (fun u => [(a_this, oX3 a_this_storage a_this_status a_this_channel a_this_registers a_this_first a_this_second o_this), (a_this_registers, .inl (k_this_registers, 16, .inl u.2.1)), (a_this_status, oX5 u.2.2)]) := by
  refine CtI.of (by decide) (Nat.le_of_ble_eq_true rfl) ?_
  intro p e s m below meth c A ls Q hE hP hD hS hl hQ
  obtain ⟨hx, hb, hml, hown, ht, hN, hK, hA⟩ := hE
  have hown : s.vm.findClass RX3 = some m.cls := hown
  have hl : lv_has ls 1 [(0, .ref a_this)] := hl
  obtain ⟨F, hF⟩ : ∃ F, f_X3_shiftWithSign o_this r_this_registers o_this_status = F := ⟨_, rfl⟩
  rw [hF] at hQ
  unfold f_X3_shiftWithSign at hF
  refine lv_aload_n hx hb dX3_shiftWithSign_0 rfl (lv_at hl 0 rfl) ?_
  refine lv_aload_n hx hb dX3_shiftWithSign_1 rfl (lv_at hl 0 rfl) ?_
  refine lv_aload_n hx hb dX3_shiftWithSign_2 rfl (lv_at hl 0 rfl) ?_
  refine gf_X3_142 (v := .int o_this.2.2.2.2.2.2.1) hx hb hown ht hK hP 0 rfl rfl dX3_shiftWithSign_3 ?_
  refine q_Vi (rest := [.ref a_this]) (c_X3_register l D a_this a_this_registers a_this_storage a_this_status a_this_channel a_this_first a_this_second k_this_registers o_this r_this_registers o_this.2.2.2.2.2.2.1) cv_X3_register hx hb hml hown ht hN hK hA hP hD hS hl.1 (km_X3_161) ⟨Nat.le_of_ble_eq_true rfl, Nat.le_of_ble_eq_true rfl⟩ rfl rfl [0, 1] (by decide) rfl [0] rfl (fun _ => rfl) (ci := 3) rfl rfl rfl rfl rfl (Nat.le_of_ble_eq_true rfl) dX3_shiftWithSign_6 ⟨Nat.zero_le _, Nat.zero_le _⟩ (fun r u H locs hw hP hD hS => ?_)
  obtain ⟨rfl, rfl⟩ := hw
  have hP : va_P D vwCl [(a_this, oX3 a_this_storage a_this_status a_this_channel a_this_registers a_this_first a_this_second o_this), (a_this_registers, .inl (k_this_registers, 16, .inl r_this_registers)), (a_this_status, oX5 o_this_status)] H := hP
  have hD : va_D A [(a_this, oX3 a_this_storage a_this_status a_this_channel a_this_registers a_this_first a_this_second o_this), (a_this_registers, .inl (k_this_registers, 16, .inl r_this_registers)), (a_this_status, oX5 o_this_status)] := hD
  refine lv_aload_n hx hb dX3_shiftWithSign_9 rfl (lv_at hl 0 rfl) ?_
  refine gf_X3_152 (v := .int o_this.2.2.2.2.2.2.2.2.1) hx hb hown ht hK hP 0 rfl rfl dX3_shiftWithSign_10 ?_
  refine lv_bipush (v := 31) hx hb dX3_shiftWithSign_13 (by decide) ?_
  refine lv_iand hx hb dX3_shiftWithSign_15 ?_
  refine lv_ishr hx hb dX3_shiftWithSign_16 ?_
  refine lv_aload_n hx hb dX3_shiftWithSign_17 rfl (lv_at hl 0 rfl) ?_
  refine lv_aload_n hx hb dX3_shiftWithSign_18 rfl (lv_at hl 0 rfl) ?_
  refine gf_X3_142 (v := .int o_this.2.2.2.2.2.2.1) hx hb hown ht hK hP 0 rfl rfl dX3_shiftWithSign_19 ?_
  refine q_Vi (rest := [.int ((f_X3_register r_this_registers o_this.2.2.2.2.2.2.1) >>> ((o_this.2.2.2.2.2.2.2.2.1 &&& (31 : Int32)) &&& 31)), .ref a_this]) (c_X3_register l D a_this a_this_registers a_this_storage a_this_status a_this_channel a_this_first a_this_second k_this_registers o_this r_this_registers o_this.2.2.2.2.2.2.1) cv_X3_register hx hb hml hown ht hN hK hA hP hD hS hl.1 (km_X3_161) ⟨Nat.le_of_ble_eq_true rfl, Nat.le_of_ble_eq_true rfl⟩ rfl rfl [0, 1] (by decide) rfl [0] rfl (fun _ => rfl) (ci := 3) rfl rfl rfl rfl rfl (Nat.le_of_ble_eq_true rfl) dX3_shiftWithSign_22 ⟨Nat.zero_le _, Nat.zero_le _⟩ (fun r u H locs hw hP hD hS => ?_)
  obtain ⟨rfl, rfl⟩ := hw
  have hP : va_P D vwCl [(a_this, oX3 a_this_storage a_this_status a_this_channel a_this_registers a_this_first a_this_second o_this), (a_this_registers, .inl (k_this_registers, 16, .inl r_this_registers)), (a_this_status, oX5 o_this_status)] H := hP
  have hD : va_D A [(a_this, oX3 a_this_storage a_this_status a_this_channel a_this_registers a_this_first a_this_second o_this), (a_this_registers, .inl (k_this_registers, 16, .inl r_this_registers)), (a_this_status, oX5 o_this_status)] := hD
  refine lv_bipush (v := 31) hx hb dX3_shiftWithSign_25 (by decide) ?_
  refine lv_ishr hx hb dX3_shiftWithSign_27 ?_
  refine q_Vi (rest := []) (c_X3_shift l D a_this a_this_registers a_this_storage a_this_status a_this_channel a_this_first a_this_second k_this_registers o_this r_this_registers ((f_X3_register r_this_registers o_this.2.2.2.2.2.2.1) >>> ((o_this.2.2.2.2.2.2.2.2.1 &&& (31 : Int32)) &&& 31)) ((f_X3_register r_this_registers o_this.2.2.2.2.2.2.1) >>> ((31 : Int32) &&& 31))) cv_X3_shift hx hb hml hown ht hN hK hA hP hD hS hl.1 (km_X3_289) ⟨Nat.le_of_ble_eq_true rfl, Nat.le_of_ble_eq_true rfl⟩ rfl rfl [0, 1] (by decide) rfl [0] rfl (fun _ => rfl) (ci := 3) rfl rfl rfl rfl rfl (Nat.le_of_ble_eq_true rfl) dX3_shiftWithSign_28 ⟨Nat.zero_le _, Nat.zero_le _⟩ (fun r w_3 H locs hw hP hD hS => ?_)
  obtain ⟨hw, hr⟩ := hw
  subst hr
  have hP : va_P D vwCl [(a_this, oX3 a_this_storage a_this_status a_this_channel a_this_registers a_this_first a_this_second o_this), (a_this_registers, .inl (k_this_registers, 16, .inl w_3.2)), (a_this_status, oX5 o_this_status)] H := hP
  have hD : va_D A [(a_this, oX3 a_this_storage a_this_status a_this_channel a_this_registers a_this_first a_this_second o_this), (a_this_registers, .inl (k_this_registers, 16, .inl w_3.2)), (a_this_status, oX5 o_this_status)] := hD
  rw [q_let_of hw] at hF
  refine lv_pop hx hb dX3_shiftWithSign_31 rfl ?_
  refine lv_aload_n hx hb dX3_shiftWithSign_32 rfl (lv_at hl 0 rfl) ?_
  refine gf_X3_21 (v := .ref a_this_status) hx hb hown ht hK hP 0 rfl rfl dX3_shiftWithSign_33 ?_
  refine lv_aload_n hx hb dX3_shiftWithSign_36 rfl (lv_at hl 0 rfl) ?_
  refine lv_aload_n hx hb dX3_shiftWithSign_37 rfl (lv_at hl 0 rfl) ?_
  refine gf_X3_142 (v := .int o_this.2.2.2.2.2.2.1) hx hb hown ht hK hP 0 rfl rfl dX3_shiftWithSign_38 ?_
  refine q_Vi (rest := [.ref a_this_status]) (c_X3_register l D a_this a_this_registers a_this_storage a_this_status a_this_channel a_this_first a_this_second k_this_registers o_this w_3.2 o_this.2.2.2.2.2.2.1) cv_X3_register hx hb hml hown ht hN hK hA hP hD hS hl.1 (km_X3_161) ⟨Nat.le_of_ble_eq_true rfl, Nat.le_of_ble_eq_true rfl⟩ rfl rfl [0, 1] (by decide) rfl [0] rfl (fun _ => rfl) (ci := 3) rfl rfl rfl rfl rfl (Nat.le_of_ble_eq_true rfl) dX3_shiftWithSign_41 ⟨Nat.zero_le _, Nat.zero_le _⟩ (fun r u H locs hw hP hD hS => ?_)
  obtain ⟨rfl, rfl⟩ := hw
  have hP : va_P D vwCl [(a_this, oX3 a_this_storage a_this_status a_this_channel a_this_registers a_this_first a_this_second o_this), (a_this_registers, .inl (k_this_registers, 16, .inl w_3.2)), (a_this_status, oX5 o_this_status)] H := hP
  have hD : va_D A [(a_this, oX3 a_this_storage a_this_status a_this_channel a_this_registers a_this_first a_this_second o_this), (a_this_registers, .inl (k_this_registers, 16, .inl w_3.2)), (a_this_status, oX5 o_this_status)] := hD
  refine lv_i2l hx hb dX3_shiftWithSign_44 rfl ?_
  refine lv_lconst (v := 0) hx hb dX3_shiftWithSign_45 (by decide) ?_
  refine q_Ni (rest := [.ref a_this_status]) (c_X7_order l D ((f_X3_register w_3.2 o_this.2.2.2.2.2.2.1).toInt64) 0) cv_X7_order hx hb hml hown ht hN hK hA hP hD hS hl.1 (hN.2.2) ⟨Nat.le_of_ble_eq_true rfl, Nat.le_of_ble_eq_true rfl⟩ rfl rfl [] (by decide) rfl [] rfl (fun _ => rfl) rfl rfl (Nat.le_of_ble_eq_true rfl) dX3_shiftWithSign_46 ⟨Nat.zero_le _, Nat.zero_le _⟩ (fun r u H locs hw hP hD hS => ?_)
  obtain ⟨rfl, rfl⟩ := hw
  have hP : va_P D vwCl [(a_this, oX3 a_this_storage a_this_status a_this_channel a_this_registers a_this_first a_this_second o_this), (a_this_registers, .inl (k_this_registers, 16, .inl w_3.2)), (a_this_status, oX5 o_this_status)] H := hP
  have hD : va_D A [(a_this, oX3 a_this_storage a_this_status a_this_channel a_this_registers a_this_first a_this_second o_this), (a_this_registers, .inl (k_this_registers, 16, .inl w_3.2)), (a_this_status, oX5 o_this_status)] := hD
  refine pf_X3_209 (x := (f_X7_order ((f_X3_register w_3.2 o_this.2.2.2.2.2.2.1).toInt64) 0)) hx hb hown ht hK hP hD hS 2 rfl (Nat.le_of_ble_eq_true rfl) dX3_shiftWithSign_49 (fun H locs hP hD hS => ?_)
  have hP : va_P D vwCl [(a_this, oX3 a_this_storage a_this_status a_this_channel a_this_registers a_this_first a_this_second o_this), (a_this_registers, .inl (k_this_registers, 16, .inl w_3.2)), (a_this_status, oX5 (o_this_status.1, o_this_status.2.1, (f_X7_order ((f_X3_register w_3.2 o_this.2.2.2.2.2.2.1).toInt64) 0), o_this_status.2.2.2))] H := hP
  have hD : va_D A [(a_this, oX3 a_this_storage a_this_status a_this_channel a_this_registers a_this_first a_this_second o_this), (a_this_registers, .inl (k_this_registers, 16, .inl w_3.2)), (a_this_status, oX5 (o_this_status.1, o_this_status.2.1, (f_X7_order ((f_X3_register w_3.2 o_this.2.2.2.2.2.2.1).toInt64) 0), o_this_status.2.2.2))] := hD
  refine lv_iconst (v := 0) hx hb dX3_shiftWithSign_52 (by decide) ?_
  exact hQ 0 (0, w_3.2, (o_this_status.1, o_this_status.2.1, (f_X7_order ((f_X3_register w_3.2 o_this.2.2.2.2.2.2.1).toInt64) 0), o_this_status.2.2.2)) _ _ _ _ dX3_shiftWithSign_53 ⟨hF.symm, rfl⟩ hP hD hS
theorem cv_X3_shiftWithSign : qV yX3_shiftWithSign cX3_shiftWithSign 1 (some .int) 0 := ⟨kc_X3_shiftWithSign, kt_X3_shiftWithSign, ks_X3_shiftWithSign, kn_X3, by decide, by decide +kernel⟩
def f_X3_registersNamed (o_this : Bool × Int32 × Int32 × Int32 × Int32 × Int32 × Int32 × Int32 × Int32 × Int32) : Int32 := (((o_this.2.2.2.2.2.2.2.1 - o_this.2.2.2.2.2.2.1) &&& (15 : Int32)) + (1 : Int32))
set_option linter.all false in
set_option maxHeartbeats 4000000 in
set_option maxRecDepth 100000 in
theorem c_X3_registersNamed (l : Launch) (D : va_G) (a_this a_this_storage a_this_status a_this_channel a_this_registers a_this_first a_this_second : Nat) (o_this : Bool × Int32 × Int32 × Int32 × Int32 × Int32 × Int32 × Int32 × Int32 × Int32) : CtI l yX3_registersNamed cX3_registersNamed 1 (some .int) { frames := 0, cells := 0, slots := 0, locals := 0 } D [.ref a_this] [(a_this, oX3 a_this_storage a_this_status a_this_channel a_this_registers a_this_first a_this_second o_this)] [] (fun (r : Int32) (u : Int32) => f_X3_registersNamed o_this = u ∧ r = u) (fun u => [(a_this, oX3 a_this_storage a_this_status a_this_channel a_this_registers a_this_first a_this_second o_this)]) := by
  refine CtI.of (by decide) (Nat.le_of_ble_eq_true rfl) ?_
  intro p e s m below meth c A ls Q hE hP hD hS hl hQ
  obtain ⟨hx, hb, hml, hown, ht, hN, hK, hA⟩ := hE
  have hown : s.vm.findClass RX3 = some m.cls := hown
  have hl : lv_has ls 1 [(0, .ref a_this)] := hl
  obtain ⟨F, hF⟩ : ∃ F, f_X3_registersNamed o_this = F := ⟨_, rfl⟩
  rw [hF] at hQ
  unfold f_X3_registersNamed at hF
  refine lv_aload_n hx hb dX3_registersNamed_0 rfl (lv_at hl 0 rfl) ?_
  refine gf_X3_145 (v := .int o_this.2.2.2.2.2.2.2.1) hx hb hown ht hK hP 0 rfl rfl dX3_registersNamed_1 ?_
  refine lv_aload_n hx hb dX3_registersNamed_4 rfl (lv_at hl 0 rfl) ?_
  refine gf_X3_142 (v := .int o_this.2.2.2.2.2.2.1) hx hb hown ht hK hP 0 rfl rfl dX3_registersNamed_5 ?_
  refine lv_isub hx hb dX3_registersNamed_8 ?_
  refine lv_bipush (v := 15) hx hb dX3_registersNamed_9 (by decide) ?_
  refine lv_iand hx hb dX3_registersNamed_11 ?_
  refine lv_iconst (v := 1) hx hb dX3_registersNamed_12 (by decide) ?_
  refine lv_iadd hx hb dX3_registersNamed_13 ?_
  exact hQ (((o_this.2.2.2.2.2.2.2.1 - o_this.2.2.2.2.2.2.1) &&& (15 : Int32)) + (1 : Int32)) (((o_this.2.2.2.2.2.2.2.1 - o_this.2.2.2.2.2.2.1) &&& (15 : Int32)) + (1 : Int32)) _ _ _ _ dX3_registersNamed_14 ⟨hF.symm, rfl⟩ hP hD hS
theorem cv_X3_registersNamed : qV yX3_registersNamed cX3_registersNamed 1 (some .int) 0 := ⟨kc_X3_registersNamed, kt_X3_registersNamed, ks_X3_registersNamed, kn_X3, by decide, by decide +kernel⟩
def f_X3_storeRegisters_L26 (o_this : Bool × Int32 × Int32 × Int32 × Int32 × Int32 × Int32 × Int32 × Int32 × Int32) (r_this_registers : Nat → Int32) : Nat → (Nat → Int32) → Int32 → Int32 × (Nat → Int32)
  | 0, r_this_storage_bytes_L26, x3 => (0, r_this_storage_bytes_L26)
  | fuel + 1, r_this_storage_bytes_L26, x3 => (if (f_X3_registersNamed o_this) ≤ x3 then (0, r_this_storage_bytes_L26) else (q_let (f_X6_putWord r_this_storage_bytes_L26 (o_this.2.2.2.2.2.2.2.2.1 + (x3 * (4 : Int32))) (f_X3_register r_this_registers (o_this.2.2.2.2.2.2.1 + x3))) fun w_7 => f_X3_storeRegisters_L26 o_this r_this_registers fuel w_7 (x3 + (1 : Int32))))
def f_X3_storeRegisters (o_this : Bool × Int32 × Int32 × Int32 × Int32 × Int32 × Int32 × Int32 × Int32 × Int32) (r_this_registers : Nat → Int32) (o_this_status : Int32 × Int32 × Int32 × Int32) (r_this_storage_bytes : Nat → Int32) (r_this_storage_keys : Nat → Int32) : Int32 × (Nat → Int32) := (if (f_X3_storeFault o_this_status r_this_storage_keys o_this.2.2.2.2.2.2.2.2.1 ((f_X3_registersNamed o_this) * (4 : Int32)) 4) = 0 then f_X3_storeRegisters_L26 o_this r_this_registers ((((f_X3_registersNamed o_this) : Int32).toInt - (0 : Int32).toInt).toNat + 1) r_this_storage_bytes 0 else ((f_X3_storeFault o_this_status r_this_storage_keys o_this.2.2.2.2.2.2.2.2.1 ((f_X3_registersNamed o_this) * (4 : Int32)) 4), r_this_storage_bytes))
set_option linter.all false in
set_option maxHeartbeats 4000000 in
set_option maxRecDepth 100000 in
theorem c_X3_storeRegisters (l : Launch) (D : va_G) (a_this a_this_registers a_this_status a_this_storage a_this_storage_bytes a_this_storage_keys a_this_channel a_this_first a_this_second : Nat) (k_this_registers k_this_storage_bytes k_this_storage_keys : ClassId) (o_this : Bool × Int32 × Int32 × Int32 × Int32 × Int32 × Int32 × Int32 × Int32 × Int32) (r_this_registers : Nat → Int32) (o_this_status : Int32 × Int32 × Int32 × Int32) (r_this_storage_bytes : Nat → Int32) (r_this_storage_keys : Nat → Int32) : CtI l yX3_storeRegisters cX3_storeRegisters 4 (some .int) { frames := 3, cells := 0, slots := 0, locals := 72 } D [.ref a_this] [(a_this, oX3 a_this_storage a_this_status a_this_channel a_this_registers a_this_first a_this_second o_this), (a_this_registers, .inl (k_this_registers, 16, .inl r_this_registers)), (a_this_status, oX5 o_this_status), (a_this_storage, oX6 a_this_storage_bytes a_this_storage_keys), (a_this_storage_bytes, .inl (k_this_storage_bytes, 2048, .inl r_this_storage_bytes)), (a_this_storage_keys, .inl (k_this_storage_keys, 8, .inl r_this_storage_keys))] [(k_this_registers, .int), (k_this_storage_bytes, .byte), (k_this_storage_keys, .int)] (fun (r : Int32) (u : Int32 × (Nat → Int32)) => f_X3_storeRegisters o_this r_this_registers o_this_status r_this_storage_bytes r_this_storage_keys = u ∧ r = u.1) (fun u => [(a_this, oX3 a_this_storage a_this_status a_this_channel a_this_registers a_this_first a_this_second o_this), (a_this_registers, .inl (k_this_registers, 16, .inl r_this_registers)), (a_this_status, oX5 o_this_status), (a_this_storage, oX6 a_this_storage_bytes a_this_storage_keys), (a_this_storage_bytes, .inl (k_this_storage_bytes, 2048, .inl u.2)), (a_this_storage_keys, .inl (k_this_storage_keys, 8, .inl r_this_storage_keys))]) := by
  refine CtI.of (by decide) (Nat.le_of_ble_eq_true rfl) ?_
  intro p e s m below meth c A ls Q hE hP hD hS hl hQ
  obtain ⟨hx, hb, hml, hown, ht, hN, hK, hA⟩ := hE
  have hown : s.vm.findClass RX3 = some m.cls := hown
  have hl : lv_has ls 4 [(0, .ref a_this)] := hl
  obtain ⟨F, hF⟩ : ∃ F, f_X3_storeRegisters o_this r_this_registers o_this_status r_this_storage_bytes r_this_storage_keys = F := ⟨_, rfl⟩
  rw [hF] at hQ
  unfold f_X3_storeRegisters at hF
  refine lv_aload_n hx hb dX3_storeRegisters_0 rfl (lv_at hl 0 rfl) ?_
  refine q_Vi (rest := []) (c_X3_registersNamed l D a_this a_this_storage a_this_status a_this_channel a_this_registers a_this_first a_this_second o_this) cv_X3_registersNamed hx hb hml hown ht hN hK hA hP hD hS hl.1 (km_X3_316) ⟨Nat.le_of_ble_eq_true rfl, Nat.le_of_ble_eq_true rfl⟩ rfl rfl [0] (by decide) rfl [] rfl (fun _ => rfl) (ci := 3) rfl rfl rfl rfl rfl (Nat.le_of_ble_eq_true rfl) dX3_storeRegisters_1 ⟨Nat.zero_le _, Nat.zero_le _⟩ (fun r u H locs hw hP hD hS => ?_)
  obtain ⟨rfl, rfl⟩ := hw
  have hP : va_P D vwCl [(a_this, oX3 a_this_storage a_this_status a_this_channel a_this_registers a_this_first a_this_second o_this), (a_this_registers, .inl (k_this_registers, 16, .inl r_this_registers)), (a_this_status, oX5 o_this_status), (a_this_storage, oX6 a_this_storage_bytes a_this_storage_keys), (a_this_storage_bytes, .inl (k_this_storage_bytes, 2048, .inl r_this_storage_bytes)), (a_this_storage_keys, .inl (k_this_storage_keys, 8, .inl r_this_storage_keys))] H := hP
  have hD : va_D A [(a_this, oX3 a_this_storage a_this_status a_this_channel a_this_registers a_this_first a_this_second o_this), (a_this_registers, .inl (k_this_registers, 16, .inl r_this_registers)), (a_this_status, oX5 o_this_status), (a_this_storage, oX6 a_this_storage_bytes a_this_storage_keys), (a_this_storage_bytes, .inl (k_this_storage_bytes, 2048, .inl r_this_storage_bytes)), (a_this_storage_keys, .inl (k_this_storage_keys, 8, .inl r_this_storage_keys))] := hD
  refine lv_istore_n (lv' := [(1, .int (f_X3_registersNamed o_this)), (0, .ref a_this)]) hx hb dX3_storeRegisters_4 rfl hl (by decide) rfl (fun ls hl => ?_)
  refine lv_aload_n hx hb dX3_storeRegisters_5 rfl (lv_at hl 1 rfl) ?_
  refine lv_aload_n hx hb dX3_storeRegisters_6 rfl (lv_at hl 1 rfl) ?_
  refine gf_X3_152 (v := .int o_this.2.2.2.2.2.2.2.2.1) hx hb hown ht hK hP 0 rfl rfl dX3_storeRegisters_7 ?_
  refine lv_iload_n hx hb dX3_storeRegisters_10 rfl (lv_at hl 0 rfl) ?_
  refine lv_iconst (v := 4) hx hb dX3_storeRegisters_11 (by decide) ?_
  refine lv_imul hx hb dX3_storeRegisters_12 ?_
  refine lv_iconst (v := 4) hx hb dX3_storeRegisters_13 (by decide) ?_
  refine q_Vi (rest := []) (c_X3_storeFault l D a_this a_this_status a_this_storage a_this_storage_keys a_this_channel a_this_registers a_this_first a_this_second a_this_storage_bytes k_this_storage_keys o_this o_this_status r_this_storage_keys o_this.2.2.2.2.2.2.2.2.1 ((f_X3_registersNamed o_this) * (4 : Int32)) 4) cv_X3_storeFault hx hb hml hown ht hN hK hA hP hD hS hl.1 (km_X3_264) ⟨Nat.le_of_ble_eq_true rfl, Nat.le_of_ble_eq_true rfl⟩ rfl rfl [0, 2, 3, 5] (by decide) rfl [2] rfl (fun _ => rfl) (ci := 3) rfl rfl rfl rfl rfl (Nat.le_of_ble_eq_true rfl) dX3_storeRegisters_14 ⟨Nat.zero_le _, Nat.zero_le _⟩ (fun r u H locs hw hP hD hS => ?_)
  obtain ⟨rfl, rfl⟩ := hw
  have hP : va_P D vwCl [(a_this, oX3 a_this_storage a_this_status a_this_channel a_this_registers a_this_first a_this_second o_this), (a_this_registers, .inl (k_this_registers, 16, .inl r_this_registers)), (a_this_status, oX5 o_this_status), (a_this_storage, oX6 a_this_storage_bytes a_this_storage_keys), (a_this_storage_bytes, .inl (k_this_storage_bytes, 2048, .inl r_this_storage_bytes)), (a_this_storage_keys, .inl (k_this_storage_keys, 8, .inl r_this_storage_keys))] H := hP
  have hD : va_D A [(a_this, oX3 a_this_storage a_this_status a_this_channel a_this_registers a_this_first a_this_second o_this), (a_this_registers, .inl (k_this_registers, 16, .inl r_this_registers)), (a_this_status, oX5 o_this_status), (a_this_storage, oX6 a_this_storage_bytes a_this_storage_keys), (a_this_storage_bytes, .inl (k_this_storage_bytes, 2048, .inl r_this_storage_bytes)), (a_this_storage_keys, .inl (k_this_storage_keys, 8, .inl r_this_storage_keys))] := hD
  refine lv_istore_n (lv' := [(2, .int (f_X3_storeFault o_this_status r_this_storage_keys o_this.2.2.2.2.2.2.2.2.1 ((f_X3_registersNamed o_this) * (4 : Int32)) 4)), (1, .int (f_X3_registersNamed o_this)), (0, .ref a_this)]) hx hb dX3_storeRegisters_17 rfl hl (by decide) rfl (fun ls hl => ?_)
  refine lv_iload_n hx hb dX3_storeRegisters_18 rfl (lv_at hl 0 rfl) ?_
  refine lv_if_eq (tgt := 24) hx hb dX3_storeRegisters_19 (by decide) (fun c_3 => ?_) (fun c_3 => ?_)
  · skip
    rw [if_pos c_3] at hF
    refine lv_iconst (v := 0) hx hb dX3_storeRegisters_24 (by decide) ?_
    refine lv_istore_n (lv' := [(3, .int 0), (2, .int (f_X3_storeFault o_this_status r_this_storage_keys o_this.2.2.2.2.2.2.2.2.1 ((f_X3_registersNamed o_this) * (4 : Int32)) 4)), (1, .int (f_X3_registersNamed o_this)), (0, .ref a_this)]) hx hb dX3_storeRegisters_25 rfl hl (by decide) rfl (fun ls hl => ?_)
    have L26 : ∀ (fuel : Nat) (r_this_storage_bytes_L26 : Nat → Int32) (x3 : Int32) (H : Heap) (locs : List Loc) (ls : Array Slot), (((f_X3_registersNamed o_this) : Int32).toInt - (x3 : Int32).toInt).toNat < fuel → va_P D vwCl [(a_this, oX3 a_this_storage a_this_status a_this_channel a_this_registers a_this_first a_this_second o_this), (a_this_registers, .inl (k_this_registers, 16, .inl r_this_registers)), (a_this_status, oX5 o_this_status), (a_this_storage, oX6 a_this_storage_bytes a_this_storage_keys), (a_this_storage_bytes, .inl (k_this_storage_bytes, 2048, .inl r_this_storage_bytes_L26)), (a_this_storage_keys, .inl (k_this_storage_keys, 8, .inl r_this_storage_keys))] H → va_D A [(a_this, oX3 a_this_storage a_this_status a_this_channel a_this_registers a_this_first a_this_second o_this), (a_this_registers, .inl (k_this_registers, 16, .inl r_this_registers)), (a_this_status, oX5 o_this_status), (a_this_storage, oX6 a_this_storage_bytes a_this_storage_keys), (a_this_storage_bytes, .inl (k_this_storage_bytes, 2048, .inl r_this_storage_bytes_L26)), (a_this_storage_keys, .inl (k_this_storage_keys, 8, .inl r_this_storage_keys))] → va_S A s.heap H locs → lv_has ls 4 [(3, .int x3), (2, .int (f_X3_storeFault o_this_status r_this_storage_keys o_this.2.2.2.2.2.2.2.2.1 ((f_X3_registersNamed o_this) * (4 : Int32)) 4)), (1, .int (f_X3_registersNamed o_this)), (0, .ref a_this)] → f_X3_storeRegisters_L26 o_this r_this_registers fuel r_this_storage_bytes_L26 x3 = F → W p l e ({ frames := 3, cells := 0, slots := 0, locals := 72 } : Room) s m ([.ref a_this] : List Value).toArray below meth c H locs 0 0 Q (F0 m 26 ls []) := by
      intro fuel
      induction fuel with
      | zero => intro r_this_storage_bytes_L26 x3 H locs ls hm; exact absurd hm (Nat.not_lt_zero _)
      | succ fuel ih =>
        intro r_this_storage_bytes_L26 x3 H locs ls hm  hP hD hS hl hF
        rw [f_X3_storeRegisters_L26] at hF
        skip
        refine lv_iload_n hx hb dX3_storeRegisters_26 rfl (lv_at hl 0 rfl) ?_
        refine lv_iload_n hx hb dX3_storeRegisters_27 rfl (lv_at hl 2 rfl) ?_
        refine lv_icmp_ge (tgt := 62) hx hb dX3_storeRegisters_28 (by decide) (fun c_5 => ?_) (fun c_5 => ?_)
        · skip
          rw [if_pos c_5] at hF
          refine lv_iconst (v := 0) hx hb dX3_storeRegisters_62 (by decide) ?_
          exact hQ 0 (0, r_this_storage_bytes_L26) _ _ _ _ dX3_storeRegisters_63 ⟨hF.symm, rfl⟩ hP hD hS
        · skip
          rw [if_neg c_5] at hF
          refine lv_aload_n hx hb dX3_storeRegisters_31 rfl (lv_at hl 3 rfl) ?_
          refine gf_X3_12 (v := .ref a_this_storage) hx hb hown ht hK hP 0 rfl rfl dX3_storeRegisters_32 ?_
          refine lv_aload_n hx hb dX3_storeRegisters_35 rfl (lv_at hl 3 rfl) ?_
          refine gf_X3_152 (v := .int o_this.2.2.2.2.2.2.2.2.1) hx hb hown ht hK hP 0 rfl rfl dX3_storeRegisters_36 ?_
          refine lv_iload_n hx hb dX3_storeRegisters_39 rfl (lv_at hl 0 rfl) ?_
          refine lv_iconst (v := 4) hx hb dX3_storeRegisters_40 (by decide) ?_
          refine lv_imul hx hb dX3_storeRegisters_41 ?_
          refine lv_iadd hx hb dX3_storeRegisters_42 ?_
          refine lv_aload_n hx hb dX3_storeRegisters_43 rfl (lv_at hl 3 rfl) ?_
          refine lv_aload_n hx hb dX3_storeRegisters_44 rfl (lv_at hl 3 rfl) ?_
          refine gf_X3_142 (v := .int o_this.2.2.2.2.2.2.1) hx hb hown ht hK hP 0 rfl rfl dX3_storeRegisters_45 ?_
          refine lv_iload_n hx hb dX3_storeRegisters_48 rfl (lv_at hl 0 rfl) ?_
          refine lv_iadd hx hb dX3_storeRegisters_49 ?_
          refine q_Vi (rest := [.int (o_this.2.2.2.2.2.2.2.2.1 + (x3 * (4 : Int32))), .ref a_this_storage]) (c_X3_register l D a_this a_this_registers a_this_storage a_this_status a_this_channel a_this_first a_this_second k_this_registers o_this r_this_registers (o_this.2.2.2.2.2.2.1 + x3)) cv_X3_register hx hb hml hown ht hN hK hA hP hD hS hl.1 (km_X3_161) ⟨Nat.le_of_ble_eq_true rfl, Nat.le_of_ble_eq_true rfl⟩ rfl rfl [0, 1] (by decide) rfl [0] rfl (fun _ => rfl) (ci := 3) rfl rfl rfl rfl rfl (Nat.le_of_ble_eq_true rfl) dX3_storeRegisters_50 ⟨Nat.zero_le _, Nat.zero_le _⟩ (fun r u H locs hw hP hD hS => ?_)
          obtain ⟨rfl, rfl⟩ := hw
          have hP : va_P D vwCl [(a_this, oX3 a_this_storage a_this_status a_this_channel a_this_registers a_this_first a_this_second o_this), (a_this_registers, .inl (k_this_registers, 16, .inl r_this_registers)), (a_this_status, oX5 o_this_status), (a_this_storage, oX6 a_this_storage_bytes a_this_storage_keys), (a_this_storage_bytes, .inl (k_this_storage_bytes, 2048, .inl r_this_storage_bytes_L26)), (a_this_storage_keys, .inl (k_this_storage_keys, 8, .inl r_this_storage_keys))] H := hP
          have hD : va_D A [(a_this, oX3 a_this_storage a_this_status a_this_channel a_this_registers a_this_first a_this_second o_this), (a_this_registers, .inl (k_this_registers, 16, .inl r_this_registers)), (a_this_status, oX5 o_this_status), (a_this_storage, oX6 a_this_storage_bytes a_this_storage_keys), (a_this_storage_bytes, .inl (k_this_storage_bytes, 2048, .inl r_this_storage_bytes_L26)), (a_this_storage_keys, .inl (k_this_storage_keys, 8, .inl r_this_storage_keys))] := hD
          refine q_Vv (rest := []) (c_X6_putWord l D a_this_storage a_this_storage_bytes a_this_storage_keys k_this_storage_bytes r_this_storage_bytes_L26 (o_this.2.2.2.2.2.2.2.2.1 + (x3 * (4 : Int32))) (f_X3_register r_this_registers (o_this.2.2.2.2.2.2.1 + x3))) cv_X6_putWord hx hb hml hown ht hN hK hA hP hD hS hl.1 (km_X3_104) ⟨Nat.le_of_ble_eq_true rfl, Nat.le_of_ble_eq_true rfl⟩ rfl rfl [3, 4] (by decide) rfl [1] rfl (fun _ => rfl) (ci := 6) rfl rfl rfl rfl rfl (Nat.le_of_ble_eq_true rfl) dX3_storeRegisters_53 ⟨Nat.zero_le _, Nat.zero_le _⟩ (fun w_7 H locs hw hP hD hS => ?_)
          have hP : va_P D vwCl [(a_this, oX3 a_this_storage a_this_status a_this_channel a_this_registers a_this_first a_this_second o_this), (a_this_registers, .inl (k_this_registers, 16, .inl r_this_registers)), (a_this_status, oX5 o_this_status), (a_this_storage, oX6 a_this_storage_bytes a_this_storage_keys), (a_this_storage_bytes, .inl (k_this_storage_bytes, 2048, .inl w_7)), (a_this_storage_keys, .inl (k_this_storage_keys, 8, .inl r_this_storage_keys))] H := hP
          have hD : va_D A [(a_this, oX3 a_this_storage a_this_status a_this_channel a_this_registers a_this_first a_this_second o_this), (a_this_registers, .inl (k_this_registers, 16, .inl r_this_registers)), (a_this_status, oX5 o_this_status), (a_this_storage, oX6 a_this_storage_bytes a_this_storage_keys), (a_this_storage_bytes, .inl (k_this_storage_bytes, 2048, .inl w_7)), (a_this_storage_keys, .inl (k_this_storage_keys, 8, .inl r_this_storage_keys))] := hD
          rw [q_let_of hw] at hF
          refine lv_iinc (v := (x3 + (1 : Int32))) (lv' := [(3, .int (x3 + (1 : Int32))), (2, .int (f_X3_storeFault o_this_status r_this_storage_keys o_this.2.2.2.2.2.2.2.2.1 ((f_X3_registersNamed o_this) * (4 : Int32)) 4)), (1, .int (f_X3_registersNamed o_this)), (0, .ref a_this)]) hx hb dX3_storeRegisters_56 hl (k := 0) rfl rfl (by decide) rfl (fun ls hl => ?_)
          refine lv_goto (tgt := 26) hx hb dX3_storeRegisters_59 (by decide) ?_
          exact ih w_7 (x3 + (1 : Int32)) _ _ _ (by first | exact q_up hm c_3 | exact q_up hm c_5)  hP hD hS (lv_sub hl [0, 1, 2, 3] rfl) hF
    exact L26 ((((f_X3_registersNamed o_this) : Int32).toInt - (0 : Int32).toInt).toNat + 1) r_this_storage_bytes 0 _ _ _ (Nat.lt_succ_self _)  hP hD hS (lv_sub hl [0, 1, 2, 3] rfl) hF
  · skip
    rw [if_neg c_3] at hF
    refine lv_iload_n hx hb dX3_storeRegisters_22 rfl (lv_at hl 0 rfl) ?_
    exact hQ (f_X3_storeFault o_this_status r_this_storage_keys o_this.2.2.2.2.2.2.2.2.1 ((f_X3_registersNamed o_this) * (4 : Int32)) 4) ((f_X3_storeFault o_this_status r_this_storage_keys o_this.2.2.2.2.2.2.2.2.1 ((f_X3_registersNamed o_this) * (4 : Int32)) 4), r_this_storage_bytes) _ _ _ _ dX3_storeRegisters_23 ⟨hF.symm, rfl⟩ hP hD hS
theorem cv_X3_storeRegisters : qV yX3_storeRegisters cX3_storeRegisters 4 (some .int) 0 := ⟨kc_X3_storeRegisters, kt_X3_storeRegisters, ks_X3_storeRegisters, kn_X3, by decide, by decide +kernel⟩
def f_X3_loadRegisters_L25 (o_this : Bool × Int32 × Int32 × Int32 × Int32 × Int32 × Int32 × Int32 × Int32 × Int32) (r_this_storage_bytes : Nat → Int32) : Nat → (Nat → Int32) → Int32 → Int32 × (Nat → Int32)
  | 0, r_this_registers_L25, x3 => (0, r_this_registers_L25)
  | fuel + 1, r_this_registers_L25, x3 => (if (f_X3_registersNamed o_this) ≤ x3 then (0, r_this_registers_L25) else (q_let (f_X3_putRegister r_this_registers_L25 (o_this.2.2.2.2.2.2.1 + x3) (f_X6_wordAt r_this_storage_bytes (o_this.2.2.2.2.2.2.2.2.1 + (x3 * (4 : Int32))))) fun w_7 => f_X3_loadRegisters_L25 o_this r_this_storage_bytes fuel w_7 (x3 + (1 : Int32))))
def f_X3_loadRegisters (o_this : Bool × Int32 × Int32 × Int32 × Int32 × Int32 × Int32 × Int32 × Int32 × Int32) (r_this_registers : Nat → Int32) (r_this_storage_bytes : Nat → Int32) : Int32 × (Nat → Int32) := (if (f_X3_readFault o_this.2.2.2.2.2.2.2.2.1 ((f_X3_registersNamed o_this) * (4 : Int32)) 4) = 0 then f_X3_loadRegisters_L25 o_this r_this_storage_bytes ((((f_X3_registersNamed o_this) : Int32).toInt - (0 : Int32).toInt).toNat + 1) r_this_registers 0 else ((f_X3_readFault o_this.2.2.2.2.2.2.2.2.1 ((f_X3_registersNamed o_this) * (4 : Int32)) 4), r_this_registers))
set_option linter.all false in
set_option maxHeartbeats 4000000 in
set_option maxRecDepth 100000 in
theorem c_X3_loadRegisters (l : Launch) (D : va_G) (a_this a_this_registers a_this_storage a_this_storage_bytes a_this_status a_this_channel a_this_first a_this_second a_this_storage_keys : Nat) (k_this_registers k_this_storage_bytes : ClassId) (o_this : Bool × Int32 × Int32 × Int32 × Int32 × Int32 × Int32 × Int32 × Int32 × Int32) (r_this_registers : Nat → Int32) (r_this_storage_bytes : Nat → Int32) : CtI l yX3_loadRegisters cX3_loadRegisters 4 (some .int) { frames := 2, cells := 0, slots := 0, locals := 44 } D [.ref a_this] [(a_this, oX3 a_this_storage a_this_status a_this_channel a_this_registers a_this_first a_this_second o_this), (a_this_registers, .inl (k_this_registers, 16, .inl r_this_registers)), (a_this_storage, oX6 a_this_storage_bytes a_this_storage_keys), (a_this_storage_bytes, .inl (k_this_storage_bytes, 2048, .inl r_this_storage_bytes))] [(k_this_registers, .int), (k_this_storage_bytes, .byte)] (fun (r : Int32) (u : Int32 × (Nat → Int32)) => f_X3_loadRegisters o_this r_this_registers r_this_storage_bytes = u ∧ r = u.1) (fun u => [(a_this, oX3 a_this_storage a_this_status a_this_channel a_this_registers a_this_first a_this_second o_this), (a_this_registers, .inl (k_this_registers, 16, .inl u.2)), (a_this_storage, oX6 a_this_storage_bytes a_this_storage_keys), (a_this_storage_bytes, .inl (k_this_storage_bytes, 2048, .inl r_this_storage_bytes))]) := by
  refine CtI.of (by decide) (Nat.le_of_ble_eq_true rfl) ?_
  intro p e s m below meth c A ls Q hE hP hD hS hl hQ
  obtain ⟨hx, hb, hml, hown, ht, hN, hK, hA⟩ := hE
  have hown : s.vm.findClass RX3 = some m.cls := hown
  have hl : lv_has ls 4 [(0, .ref a_this)] := hl
  obtain ⟨F, hF⟩ : ∃ F, f_X3_loadRegisters o_this r_this_registers r_this_storage_bytes = F := ⟨_, rfl⟩
  rw [hF] at hQ
  unfold f_X3_loadRegisters at hF
  refine lv_aload_n hx hb dX3_loadRegisters_0 rfl (lv_at hl 0 rfl) ?_
  refine q_Vi (rest := []) (c_X3_registersNamed l D a_this a_this_storage a_this_status a_this_channel a_this_registers a_this_first a_this_second o_this) cv_X3_registersNamed hx hb hml hown ht hN hK hA hP hD hS hl.1 (km_X3_316) ⟨Nat.le_of_ble_eq_true rfl, Nat.le_of_ble_eq_true rfl⟩ rfl rfl [0] (by decide) rfl [] rfl (fun _ => rfl) (ci := 3) rfl rfl rfl rfl rfl (Nat.le_of_ble_eq_true rfl) dX3_loadRegisters_1 ⟨Nat.zero_le _, Nat.zero_le _⟩ (fun r u H locs hw hP hD hS => ?_)
  obtain ⟨rfl, rfl⟩ := hw
  have hP : va_P D vwCl [(a_this, oX3 a_this_storage a_this_status a_this_channel a_this_registers a_this_first a_this_second o_this), (a_this_registers, .inl (k_this_registers, 16, .inl r_this_registers)), (a_this_storage, oX6 a_this_storage_bytes a_this_storage_keys), (a_this_storage_bytes, .inl (k_this_storage_bytes, 2048, .inl r_this_storage_bytes))] H := hP
  have hD : va_D A [(a_this, oX3 a_this_storage a_this_status a_this_channel a_this_registers a_this_first a_this_second o_this), (a_this_registers, .inl (k_this_registers, 16, .inl r_this_registers)), (a_this_storage, oX6 a_this_storage_bytes a_this_storage_keys), (a_this_storage_bytes, .inl (k_this_storage_bytes, 2048, .inl r_this_storage_bytes))] := hD
  refine lv_istore_n (lv' := [(1, .int (f_X3_registersNamed o_this)), (0, .ref a_this)]) hx hb dX3_loadRegisters_4 rfl hl (by decide) rfl (fun ls hl => ?_)
  refine lv_aload_n hx hb dX3_loadRegisters_5 rfl (lv_at hl 1 rfl) ?_
  refine gf_X3_152 (v := .int o_this.2.2.2.2.2.2.2.2.1) hx hb hown ht hK hP 0 rfl rfl dX3_loadRegisters_6 ?_
  refine lv_iload_n hx hb dX3_loadRegisters_9 rfl (lv_at hl 0 rfl) ?_
  refine lv_iconst (v := 4) hx hb dX3_loadRegisters_10 (by decide) ?_
  refine lv_imul hx hb dX3_loadRegisters_11 ?_
  refine lv_iconst (v := 4) hx hb dX3_loadRegisters_12 (by decide) ?_
  refine q_Si (rest := []) (c_X3_readFault l D o_this.2.2.2.2.2.2.2.2.1 ((f_X3_registersNamed o_this) * (4 : Int32)) 4) cv_X3_readFault hx hb hml hown ht hN hK hA hP hD hS hl.1 (km_X3_165) ⟨Nat.le_of_ble_eq_true rfl, Nat.le_of_ble_eq_true rfl⟩ rfl rfl [] (by decide) rfl [] rfl (fun _ => rfl) rfl rfl (Nat.le_of_ble_eq_true rfl) dX3_loadRegisters_13 ⟨Nat.zero_le _, Nat.zero_le _⟩ (fun r u H locs hw hP hD hS => ?_)
  obtain ⟨rfl, rfl⟩ := hw
  have hP : va_P D vwCl [(a_this, oX3 a_this_storage a_this_status a_this_channel a_this_registers a_this_first a_this_second o_this), (a_this_registers, .inl (k_this_registers, 16, .inl r_this_registers)), (a_this_storage, oX6 a_this_storage_bytes a_this_storage_keys), (a_this_storage_bytes, .inl (k_this_storage_bytes, 2048, .inl r_this_storage_bytes))] H := hP
  have hD : va_D A [(a_this, oX3 a_this_storage a_this_status a_this_channel a_this_registers a_this_first a_this_second o_this), (a_this_registers, .inl (k_this_registers, 16, .inl r_this_registers)), (a_this_storage, oX6 a_this_storage_bytes a_this_storage_keys), (a_this_storage_bytes, .inl (k_this_storage_bytes, 2048, .inl r_this_storage_bytes))] := hD
  refine lv_istore_n (lv' := [(2, .int (f_X3_readFault o_this.2.2.2.2.2.2.2.2.1 ((f_X3_registersNamed o_this) * (4 : Int32)) 4)), (1, .int (f_X3_registersNamed o_this)), (0, .ref a_this)]) hx hb dX3_loadRegisters_16 rfl hl (by decide) rfl (fun ls hl => ?_)
  refine lv_iload_n hx hb dX3_loadRegisters_17 rfl (lv_at hl 0 rfl) ?_
  refine lv_if_eq (tgt := 23) hx hb dX3_loadRegisters_18 (by decide) (fun c_3 => ?_) (fun c_3 => ?_)
  · skip
    rw [if_pos c_3] at hF
    refine lv_iconst (v := 0) hx hb dX3_loadRegisters_23 (by decide) ?_
    refine lv_istore_n (lv' := [(3, .int 0), (2, .int (f_X3_readFault o_this.2.2.2.2.2.2.2.2.1 ((f_X3_registersNamed o_this) * (4 : Int32)) 4)), (1, .int (f_X3_registersNamed o_this)), (0, .ref a_this)]) hx hb dX3_loadRegisters_24 rfl hl (by decide) rfl (fun ls hl => ?_)
    have L25 : ∀ (fuel : Nat) (r_this_registers_L25 : Nat → Int32) (x3 : Int32) (H : Heap) (locs : List Loc) (ls : Array Slot), (((f_X3_registersNamed o_this) : Int32).toInt - (x3 : Int32).toInt).toNat < fuel → va_P D vwCl [(a_this, oX3 a_this_storage a_this_status a_this_channel a_this_registers a_this_first a_this_second o_this), (a_this_registers, .inl (k_this_registers, 16, .inl r_this_registers_L25)), (a_this_storage, oX6 a_this_storage_bytes a_this_storage_keys), (a_this_storage_bytes, .inl (k_this_storage_bytes, 2048, .inl r_this_storage_bytes))] H → va_D A [(a_this, oX3 a_this_storage a_this_status a_this_channel a_this_registers a_this_first a_this_second o_this), (a_this_registers, .inl (k_this_registers, 16, .inl r_this_registers_L25)), (a_this_storage, oX6 a_this_storage_bytes a_this_storage_keys), (a_this_storage_bytes, .inl (k_this_storage_bytes, 2048, .inl r_this_storage_bytes))] → va_S A s.heap H locs → lv_has ls 4 [(3, .int x3), (2, .int (f_X3_readFault o_this.2.2.2.2.2.2.2.2.1 ((f_X3_registersNamed o_this) * (4 : Int32)) 4)), (1, .int (f_X3_registersNamed o_this)), (0, .ref a_this)] → f_X3_loadRegisters_L25 o_this r_this_storage_bytes fuel r_this_registers_L25 x3 = F → W p l e ({ frames := 2, cells := 0, slots := 0, locals := 44 } : Room) s m ([.ref a_this] : List Value).toArray below meth c H locs 0 0 Q (F0 m 25 ls []) := by
      intro fuel
      induction fuel with
      | zero => intro r_this_registers_L25 x3 H locs ls hm; exact absurd hm (Nat.not_lt_zero _)
      | succ fuel ih =>
        intro r_this_registers_L25 x3 H locs ls hm  hP hD hS hl hF
        rw [f_X3_loadRegisters_L25] at hF
        skip
        refine lv_iload_n hx hb dX3_loadRegisters_25 rfl (lv_at hl 0 rfl) ?_
        refine lv_iload_n hx hb dX3_loadRegisters_26 rfl (lv_at hl 2 rfl) ?_
        refine lv_icmp_ge (tgt := 61) hx hb dX3_loadRegisters_27 (by decide) (fun c_5 => ?_) (fun c_5 => ?_)
        · skip
          rw [if_pos c_5] at hF
          refine lv_iconst (v := 0) hx hb dX3_loadRegisters_61 (by decide) ?_
          exact hQ 0 (0, r_this_registers_L25) _ _ _ _ dX3_loadRegisters_62 ⟨hF.symm, rfl⟩ hP hD hS
        · skip
          rw [if_neg c_5] at hF
          refine lv_aload_n hx hb dX3_loadRegisters_30 rfl (lv_at hl 3 rfl) ?_
          refine lv_aload_n hx hb dX3_loadRegisters_31 rfl (lv_at hl 3 rfl) ?_
          refine gf_X3_142 (v := .int o_this.2.2.2.2.2.2.1) hx hb hown ht hK hP 0 rfl rfl dX3_loadRegisters_32 ?_
          refine lv_iload_n hx hb dX3_loadRegisters_35 rfl (lv_at hl 0 rfl) ?_
          refine lv_iadd hx hb dX3_loadRegisters_36 ?_
          refine lv_aload_n hx hb dX3_loadRegisters_37 rfl (lv_at hl 3 rfl) ?_
          refine gf_X3_12 (v := .ref a_this_storage) hx hb hown ht hK hP 0 rfl rfl dX3_loadRegisters_38 ?_
          refine lv_aload_n hx hb dX3_loadRegisters_41 rfl (lv_at hl 3 rfl) ?_
          refine gf_X3_152 (v := .int o_this.2.2.2.2.2.2.2.2.1) hx hb hown ht hK hP 0 rfl rfl dX3_loadRegisters_42 ?_
          refine lv_iload_n hx hb dX3_loadRegisters_45 rfl (lv_at hl 0 rfl) ?_
          refine lv_iconst (v := 4) hx hb dX3_loadRegisters_46 (by decide) ?_
          refine lv_imul hx hb dX3_loadRegisters_47 ?_
          refine lv_iadd hx hb dX3_loadRegisters_48 ?_
          refine q_Vi (rest := [.int (o_this.2.2.2.2.2.2.1 + x3), .ref a_this]) (c_X6_wordAt l D a_this_storage a_this_storage_bytes a_this_storage_keys k_this_storage_bytes r_this_storage_bytes (o_this.2.2.2.2.2.2.2.2.1 + (x3 * (4 : Int32)))) cv_X6_wordAt hx hb hml hown ht hN hK hA hP hD hS hl.1 (km_X3_100) ⟨Nat.le_of_ble_eq_true rfl, Nat.le_of_ble_eq_true rfl⟩ rfl rfl [2, 3] (by decide) rfl [1] rfl (fun _ => rfl) (ci := 6) rfl rfl rfl rfl rfl (Nat.le_of_ble_eq_true rfl) dX3_loadRegisters_49 ⟨Nat.zero_le _, Nat.zero_le _⟩ (fun r u H locs hw hP hD hS => ?_)
          obtain ⟨rfl, rfl⟩ := hw
          have hP : va_P D vwCl [(a_this, oX3 a_this_storage a_this_status a_this_channel a_this_registers a_this_first a_this_second o_this), (a_this_registers, .inl (k_this_registers, 16, .inl r_this_registers_L25)), (a_this_storage, oX6 a_this_storage_bytes a_this_storage_keys), (a_this_storage_bytes, .inl (k_this_storage_bytes, 2048, .inl r_this_storage_bytes))] H := hP
          have hD : va_D A [(a_this, oX3 a_this_storage a_this_status a_this_channel a_this_registers a_this_first a_this_second o_this), (a_this_registers, .inl (k_this_registers, 16, .inl r_this_registers_L25)), (a_this_storage, oX6 a_this_storage_bytes a_this_storage_keys), (a_this_storage_bytes, .inl (k_this_storage_bytes, 2048, .inl r_this_storage_bytes))] := hD
          refine q_Vv (rest := []) (c_X3_putRegister l D a_this a_this_registers a_this_storage a_this_status a_this_channel a_this_first a_this_second k_this_registers o_this r_this_registers_L25 (o_this.2.2.2.2.2.2.1 + x3) (f_X6_wordAt r_this_storage_bytes (o_this.2.2.2.2.2.2.2.2.1 + (x3 * (4 : Int32))))) cv_X3_putRegister hx hb hml hown ht hN hK hA hP hD hS hl.1 (km_X3_206) ⟨Nat.le_of_ble_eq_true rfl, Nat.le_of_ble_eq_true rfl⟩ rfl rfl [0, 1] (by decide) rfl [0] rfl (fun _ => rfl) (ci := 3) rfl rfl rfl rfl rfl (Nat.le_of_ble_eq_true rfl) dX3_loadRegisters_52 ⟨Nat.zero_le _, Nat.zero_le _⟩ (fun w_7 H locs hw hP hD hS => ?_)
          have hP : va_P D vwCl [(a_this, oX3 a_this_storage a_this_status a_this_channel a_this_registers a_this_first a_this_second o_this), (a_this_registers, .inl (k_this_registers, 16, .inl w_7)), (a_this_storage, oX6 a_this_storage_bytes a_this_storage_keys), (a_this_storage_bytes, .inl (k_this_storage_bytes, 2048, .inl r_this_storage_bytes))] H := hP
          have hD : va_D A [(a_this, oX3 a_this_storage a_this_status a_this_channel a_this_registers a_this_first a_this_second o_this), (a_this_registers, .inl (k_this_registers, 16, .inl w_7)), (a_this_storage, oX6 a_this_storage_bytes a_this_storage_keys), (a_this_storage_bytes, .inl (k_this_storage_bytes, 2048, .inl r_this_storage_bytes))] := hD
          rw [q_let_of hw] at hF
          refine lv_iinc (v := (x3 + (1 : Int32))) (lv' := [(3, .int (x3 + (1 : Int32))), (2, .int (f_X3_readFault o_this.2.2.2.2.2.2.2.2.1 ((f_X3_registersNamed o_this) * (4 : Int32)) 4)), (1, .int (f_X3_registersNamed o_this)), (0, .ref a_this)]) hx hb dX3_loadRegisters_55 hl (k := 0) rfl rfl (by decide) rfl (fun ls hl => ?_)
          refine lv_goto (tgt := 25) hx hb dX3_loadRegisters_58 (by decide) ?_
          exact ih w_7 (x3 + (1 : Int32)) _ _ _ (by first | exact q_up hm c_3 | exact q_up hm c_5)  hP hD hS (lv_sub hl [0, 1, 2, 3] rfl) hF
    exact L25 ((((f_X3_registersNamed o_this) : Int32).toInt - (0 : Int32).toInt).toNat + 1) r_this_registers 0 _ _ _ (Nat.lt_succ_self _)  hP hD hS (lv_sub hl [0, 1, 2, 3] rfl) hF
  · skip
    rw [if_neg c_3] at hF
    refine lv_iload_n hx hb dX3_loadRegisters_21 rfl (lv_at hl 0 rfl) ?_
    exact hQ (f_X3_readFault o_this.2.2.2.2.2.2.2.2.1 ((f_X3_registersNamed o_this) * (4 : Int32)) 4) ((f_X3_readFault o_this.2.2.2.2.2.2.2.2.1 ((f_X3_registersNamed o_this) * (4 : Int32)) 4), r_this_registers) _ _ _ _ dX3_loadRegisters_22 ⟨hF.symm, rfl⟩ hP hD hS
theorem cv_X3_loadRegisters : qV yX3_loadRegisters cX3_loadRegisters 4 (some .int) 0 := ⟨kc_X3_loadRegisters, kt_X3_loadRegisters, ks_X3_loadRegisters, kn_X3, by decide, by decide +kernel⟩
def f_X3_loadStatus (o_this : Bool × Int32 × Int32 × Int32 × Int32 × Int32 × Int32 × Int32 × Int32 × Int32) (o_this_status : Int32 × Int32 × Int32 × Int32) (r_this_storage_bytes : Nat → Int32) : Int32 × (Int32 × Int32 × Int32 × Int32) := (if (f_X3_readFault o_this.2.2.2.2.2.2.2.2.1 8 8) = 0 then (q_let (f_X5_loadFrom r_this_storage_bytes o_this.2.2.2.2.2.2.2.2.1) fun w_3 => ((f_X3_readFault o_this.2.2.2.2.2.2.2.2.1 8 8), w_3)) else ((f_X3_readFault o_this.2.2.2.2.2.2.2.2.1 8 8), o_this_status))
set_option linter.all false in
set_option maxHeartbeats 4000000 in
set_option maxRecDepth 100000 in
theorem c_X3_loadStatus (l : Launch) (D : va_G) (a_this a_this_status a_this_storage a_this_storage_bytes a_this_channel a_this_registers a_this_first a_this_second a_this_storage_keys : Nat) (k_this_storage_bytes : ClassId) (o_this : Bool × Int32 × Int32 × Int32 × Int32 × Int32 × Int32 × Int32 × Int32 × Int32) (o_this_status : Int32 × Int32 × Int32 × Int32) (r_this_storage_bytes : Nat → Int32) : CtI l yX3_loadStatus cX3_loadStatus 2 (some .int) { frames := 3, cells := 0, slots := 0, locals := 65 } D [.ref a_this] [(a_this, oX3 a_this_storage a_this_status a_this_channel a_this_registers a_this_first a_this_second o_this), (a_this_status, oX5 o_this_status), (a_this_storage, oX6 a_this_storage_bytes a_this_storage_keys), (a_this_storage_bytes, .inl (k_this_storage_bytes, 2048, .inl r_this_storage_bytes))] [(k_this_storage_bytes, .byte)] (fun (r : Int32) (u : Int32 × (Int32 × Int32 × Int32 × Int32)) => f_X3_loadStatus o_this o_this_status r_this_storage_bytes = u ∧ r = u.1) (fun u => [(a_this, oX3 a_this_storage a_this_status a_this_channel a_this_registers a_this_first a_this_second o_this), (a_this_status, oX5 u.2), (a_this_storage, oX6 a_this_storage_bytes a_this_storage_keys), (a_this_storage_bytes, .inl (k_this_storage_bytes, 2048, .inl r_this_storage_bytes))]) := by
  refine CtI.of (by decide) (Nat.le_of_ble_eq_true rfl) ?_
  intro p e s m below meth c A ls Q hE hP hD hS hl hQ
  obtain ⟨hx, hb, hml, hown, ht, hN, hK, hA⟩ := hE
  have hown : s.vm.findClass RX3 = some m.cls := hown
  have hl : lv_has ls 2 [(0, .ref a_this)] := hl
  obtain ⟨F, hF⟩ : ∃ F, f_X3_loadStatus o_this o_this_status r_this_storage_bytes = F := ⟨_, rfl⟩
  rw [hF] at hQ
  unfold f_X3_loadStatus at hF
  refine lv_aload_n hx hb dX3_loadStatus_0 rfl (lv_at hl 0 rfl) ?_
  refine gf_X3_152 (v := .int o_this.2.2.2.2.2.2.2.2.1) hx hb hown ht hK hP 0 rfl rfl dX3_loadStatus_1 ?_
  refine lv_bipush (v := 8) hx hb dX3_loadStatus_4 (by decide) ?_
  refine lv_bipush (v := 8) hx hb dX3_loadStatus_6 (by decide) ?_
  refine q_Si (rest := []) (c_X3_readFault l D o_this.2.2.2.2.2.2.2.2.1 8 8) cv_X3_readFault hx hb hml hown ht hN hK hA hP hD hS hl.1 (km_X3_165) ⟨Nat.le_of_ble_eq_true rfl, Nat.le_of_ble_eq_true rfl⟩ rfl rfl [] (by decide) rfl [] rfl (fun _ => rfl) rfl rfl (Nat.le_of_ble_eq_true rfl) dX3_loadStatus_8 ⟨Nat.zero_le _, Nat.zero_le _⟩ (fun r u H locs hw hP hD hS => ?_)
  obtain ⟨rfl, rfl⟩ := hw
  have hP : va_P D vwCl [(a_this, oX3 a_this_storage a_this_status a_this_channel a_this_registers a_this_first a_this_second o_this), (a_this_status, oX5 o_this_status), (a_this_storage, oX6 a_this_storage_bytes a_this_storage_keys), (a_this_storage_bytes, .inl (k_this_storage_bytes, 2048, .inl r_this_storage_bytes))] H := hP
  have hD : va_D A [(a_this, oX3 a_this_storage a_this_status a_this_channel a_this_registers a_this_first a_this_second o_this), (a_this_status, oX5 o_this_status), (a_this_storage, oX6 a_this_storage_bytes a_this_storage_keys), (a_this_storage_bytes, .inl (k_this_storage_bytes, 2048, .inl r_this_storage_bytes))] := hD
  refine lv_istore_n (lv' := [(1, .int (f_X3_readFault o_this.2.2.2.2.2.2.2.2.1 8 8)), (0, .ref a_this)]) hx hb dX3_loadStatus_11 rfl hl (by decide) rfl (fun ls hl => ?_)
  refine lv_iload_n hx hb dX3_loadStatus_12 rfl (lv_at hl 0 rfl) ?_
  refine lv_if_ne (tgt := 31) hx hb dX3_loadStatus_13 (by decide) (fun c_2 => ?_) (fun c_2 => ?_)
  · skip
    rw [if_neg c_2] at hF
    refine lv_iload_n hx hb dX3_loadStatus_31 rfl (lv_at hl 0 rfl) ?_
    exact hQ (f_X3_readFault o_this.2.2.2.2.2.2.2.2.1 8 8) ((f_X3_readFault o_this.2.2.2.2.2.2.2.2.1 8 8), o_this_status) _ _ _ _ dX3_loadStatus_32 ⟨hF.symm, rfl⟩ hP hD hS
  · skip
    rw [if_pos c_2] at hF
    refine lv_aload_n hx hb dX3_loadStatus_16 rfl (lv_at hl 1 rfl) ?_
    refine gf_X3_21 (v := .ref a_this_status) hx hb hown ht hK hP 0 rfl rfl dX3_loadStatus_17 ?_
    refine lv_aload_n hx hb dX3_loadStatus_20 rfl (lv_at hl 1 rfl) ?_
    refine gf_X3_12 (v := .ref a_this_storage) hx hb hown ht hK hP 0 rfl rfl dX3_loadStatus_21 ?_
    refine lv_aload_n hx hb dX3_loadStatus_24 rfl (lv_at hl 1 rfl) ?_
    refine gf_X3_152 (v := .int o_this.2.2.2.2.2.2.2.2.1) hx hb hown ht hK hP 0 rfl rfl dX3_loadStatus_25 ?_
    refine q_Vv (rest := []) (c_X5_loadFrom l D a_this_status a_this_storage a_this_storage_bytes a_this_storage_keys k_this_storage_bytes o_this_status r_this_storage_bytes o_this.2.2.2.2.2.2.2.2.1) cv_X5_loadFrom hx hb hml hown ht hN hK hA hP hD hS hl.1 (km_X3_112) ⟨Nat.le_of_ble_eq_true rfl, Nat.le_of_ble_eq_true rfl⟩ rfl rfl [1, 2, 3] (by decide) rfl [0] rfl (fun _ => rfl) (ci := 5) rfl rfl rfl rfl rfl (Nat.le_of_ble_eq_true rfl) dX3_loadStatus_28 ⟨Nat.zero_le _, Nat.zero_le _⟩ (fun w_3 H locs hw hP hD hS => ?_)
    have hP : va_P D vwCl [(a_this, oX3 a_this_storage a_this_status a_this_channel a_this_registers a_this_first a_this_second o_this), (a_this_status, oX5 w_3), (a_this_storage, oX6 a_this_storage_bytes a_this_storage_keys), (a_this_storage_bytes, .inl (k_this_storage_bytes, 2048, .inl r_this_storage_bytes))] H := hP
    have hD : va_D A [(a_this, oX3 a_this_storage a_this_status a_this_channel a_this_registers a_this_first a_this_second o_this), (a_this_status, oX5 w_3), (a_this_storage, oX6 a_this_storage_bytes a_this_storage_keys), (a_this_storage_bytes, .inl (k_this_storage_bytes, 2048, .inl r_this_storage_bytes))] := hD
    rw [q_let_of hw] at hF
    refine lv_iload_n hx hb dX3_loadStatus_31 rfl (lv_at hl 0 rfl) ?_
    exact hQ (f_X3_readFault o_this.2.2.2.2.2.2.2.2.1 8 8) ((f_X3_readFault o_this.2.2.2.2.2.2.2.2.1 8 8), w_3) _ _ _ _ dX3_loadStatus_32 ⟨hF.symm, rfl⟩ hP hD hS
theorem cv_X3_loadStatus : qV yX3_loadStatus cX3_loadStatus 2 (some .int) 0 := ⟨kc_X3_loadStatus, kt_X3_loadStatus, ks_X3_loadStatus, kn_X3, by decide, by decide +kernel⟩
def f_X3_testBits (o_this : Bool × Int32 × Int32 × Int32 × Int32 × Int32 × Int32 × Int32 × Int32 × Int32) (o_this_status : Int32 × Int32 × Int32 × Int32) (r_this_storage_bytes : Nat → Int32) : Int32 × (Int32 × Int32 × Int32 × Int32) := (if (f_X3_readFault o_this.2.2.2.2.2.2.2.2.1 1 1) = 0 then (if ((f_X6_byteAt r_this_storage_bytes o_this.2.2.2.2.2.2.2.2.1) &&& o_this.2.2.2.2.2.1) = 0 then (0, (o_this_status.1, o_this_status.2.1, 0, o_this_status.2.2.2)) else (if ((f_X6_byteAt r_this_storage_bytes o_this.2.2.2.2.2.2.2.2.1) &&& o_this.2.2.2.2.2.1) = o_this.2.2.2.2.2.1 then (0, (o_this_status.1, o_this_status.2.1, 3, o_this_status.2.2.2)) else (0, (o_this_status.1, o_this_status.2.1, 1, o_this_status.2.2.2)))) else ((f_X3_readFault o_this.2.2.2.2.2.2.2.2.1 1 1), o_this_status))
set_option linter.all false in
set_option maxHeartbeats 4000000 in
set_option maxRecDepth 100000 in
theorem c_X3_testBits (l : Launch) (D : va_G) (a_this a_this_status a_this_storage a_this_storage_bytes a_this_channel a_this_registers a_this_first a_this_second a_this_storage_keys : Nat) (k_this_storage_bytes : ClassId) (o_this : Bool × Int32 × Int32 × Int32 × Int32 × Int32 × Int32 × Int32 × Int32 × Int32) (o_this_status : Int32 × Int32 × Int32 × Int32) (r_this_storage_bytes : Nat → Int32) : CtI l yX3_testBits cX3_testBits 3 (some .int) { frames := 2, cells := 0, slots := 0, locals := 43 } D [.ref a_this] [(a_this, oX3 a_this_storage a_this_status a_this_channel a_this_registers a_this_first a_this_second o_this), (a_this_status, oX5 o_this_status), (a_this_storage, oX6 a_this_storage_bytes a_this_storage_keys), (a_this_storage_bytes, .inl (k_this_storage_bytes, 2048, .inl r_this_storage_bytes))] [(k_this_storage_bytes, .byte)] (fun (r : Int32) (u : Int32 × (Int32 × Int32 × Int32 × Int32)) => f_X3_testBits o_this o_this_status r_this_storage_bytes = u ∧ r = u.1) (fun u => [(a_this, oX3 a_this_storage a_this_status a_this_channel a_this_registers a_this_first a_this_second o_this), (a_this_status, oX5 u.2), (a_this_storage, oX6 a_this_storage_bytes a_this_storage_keys), (a_this_storage_bytes, .inl (k_this_storage_bytes, 2048, .inl r_this_storage_bytes))]) := by
  refine CtI.of (by decide) (Nat.le_of_ble_eq_true rfl) ?_
  intro p e s m below meth c A ls Q hE hP hD hS hl hQ
  obtain ⟨hx, hb, hml, hown, ht, hN, hK, hA⟩ := hE
  have hown : s.vm.findClass RX3 = some m.cls := hown
  have hl : lv_has ls 3 [(0, .ref a_this)] := hl
  obtain ⟨F, hF⟩ : ∃ F, f_X3_testBits o_this o_this_status r_this_storage_bytes = F := ⟨_, rfl⟩
  rw [hF] at hQ
  unfold f_X3_testBits at hF
  refine lv_aload_n hx hb dX3_testBits_0 rfl (lv_at hl 0 rfl) ?_
  refine gf_X3_152 (v := .int o_this.2.2.2.2.2.2.2.2.1) hx hb hown ht hK hP 0 rfl rfl dX3_testBits_1 ?_
  refine lv_iconst (v := 1) hx hb dX3_testBits_4 (by decide) ?_
  refine lv_iconst (v := 1) hx hb dX3_testBits_5 (by decide) ?_
  refine q_Si (rest := []) (c_X3_readFault l D o_this.2.2.2.2.2.2.2.2.1 1 1) cv_X3_readFault hx hb hml hown ht hN hK hA hP hD hS hl.1 (km_X3_165) ⟨Nat.le_of_ble_eq_true rfl, Nat.le_of_ble_eq_true rfl⟩ rfl rfl [] (by decide) rfl [] rfl (fun _ => rfl) rfl rfl (Nat.le_of_ble_eq_true rfl) dX3_testBits_6 ⟨Nat.zero_le _, Nat.zero_le _⟩ (fun r u H locs hw hP hD hS => ?_)
  obtain ⟨rfl, rfl⟩ := hw
  have hP : va_P D vwCl [(a_this, oX3 a_this_storage a_this_status a_this_channel a_this_registers a_this_first a_this_second o_this), (a_this_status, oX5 o_this_status), (a_this_storage, oX6 a_this_storage_bytes a_this_storage_keys), (a_this_storage_bytes, .inl (k_this_storage_bytes, 2048, .inl r_this_storage_bytes))] H := hP
  have hD : va_D A [(a_this, oX3 a_this_storage a_this_status a_this_channel a_this_registers a_this_first a_this_second o_this), (a_this_status, oX5 o_this_status), (a_this_storage, oX6 a_this_storage_bytes a_this_storage_keys), (a_this_storage_bytes, .inl (k_this_storage_bytes, 2048, .inl r_this_storage_bytes))] := hD
  refine lv_istore_n (lv' := [(1, .int (f_X3_readFault o_this.2.2.2.2.2.2.2.2.1 1 1)), (0, .ref a_this)]) hx hb dX3_testBits_9 rfl hl (by decide) rfl (fun ls hl => ?_)
  refine lv_iload_n hx hb dX3_testBits_10 rfl (lv_at hl 0 rfl) ?_
  refine lv_if_eq (tgt := 16) hx hb dX3_testBits_11 (by decide) (fun c_2 => ?_) (fun c_2 => ?_)
  · skip
    rw [if_pos c_2] at hF
    refine lv_aload_n hx hb dX3_testBits_16 rfl (lv_at hl 1 rfl) ?_
    refine gf_X3_12 (v := .ref a_this_storage) hx hb hown ht hK hP 0 rfl rfl dX3_testBits_17 ?_
    refine lv_aload_n hx hb dX3_testBits_20 rfl (lv_at hl 1 rfl) ?_
    refine gf_X3_152 (v := .int o_this.2.2.2.2.2.2.2.2.1) hx hb hown ht hK hP 0 rfl rfl dX3_testBits_21 ?_
    refine q_Vi (rest := []) (c_X6_byteAt l D a_this_storage a_this_storage_bytes a_this_storage_keys k_this_storage_bytes r_this_storage_bytes o_this.2.2.2.2.2.2.2.2.1) cv_X6_byteAt hx hb hml hown ht hN hK hA hP hD hS hl.1 (km_X3_119) ⟨Nat.le_of_ble_eq_true rfl, Nat.le_of_ble_eq_true rfl⟩ rfl rfl [2, 3] (by decide) rfl [0] rfl (fun _ => rfl) (ci := 6) rfl rfl rfl rfl rfl (Nat.le_of_ble_eq_true rfl) dX3_testBits_24 ⟨Nat.zero_le _, Nat.zero_le _⟩ (fun r u H locs hw hP hD hS => ?_)
    obtain ⟨rfl, rfl⟩ := hw
    have hP : va_P D vwCl [(a_this, oX3 a_this_storage a_this_status a_this_channel a_this_registers a_this_first a_this_second o_this), (a_this_status, oX5 o_this_status), (a_this_storage, oX6 a_this_storage_bytes a_this_storage_keys), (a_this_storage_bytes, .inl (k_this_storage_bytes, 2048, .inl r_this_storage_bytes))] H := hP
    have hD : va_D A [(a_this, oX3 a_this_storage a_this_status a_this_channel a_this_registers a_this_first a_this_second o_this), (a_this_status, oX5 o_this_status), (a_this_storage, oX6 a_this_storage_bytes a_this_storage_keys), (a_this_storage_bytes, .inl (k_this_storage_bytes, 2048, .inl r_this_storage_bytes))] := hD
    refine lv_aload_n hx hb dX3_testBits_27 rfl (lv_at hl 1 rfl) ?_
    refine gf_X3_139 (v := .int o_this.2.2.2.2.2.1) hx hb hown ht hK hP 0 rfl rfl dX3_testBits_28 ?_
    refine lv_iand hx hb dX3_testBits_31 ?_
    refine lv_istore_n (lv' := [(2, .int ((f_X6_byteAt r_this_storage_bytes o_this.2.2.2.2.2.2.2.2.1) &&& o_this.2.2.2.2.2.1)), (1, .int (f_X3_readFault o_this.2.2.2.2.2.2.2.2.1 1 1)), (0, .ref a_this)]) hx hb dX3_testBits_32 rfl hl (by decide) rfl (fun ls hl => ?_)
    refine lv_iload_n hx hb dX3_testBits_33 rfl (lv_at hl 0 rfl) ?_
    refine lv_if_ne (tgt := 48) hx hb dX3_testBits_34 (by decide) (fun c_4 => ?_) (fun c_4 => ?_)
    · skip
      rw [if_neg c_4] at hF
      refine lv_aload_n hx hb dX3_testBits_48 rfl (lv_at hl 2 rfl) ?_
      refine gf_X3_21 (v := .ref a_this_status) hx hb hown ht hK hP 0 rfl rfl dX3_testBits_49 ?_
      refine lv_iload_n hx hb dX3_testBits_52 rfl (lv_at hl 0 rfl) ?_
      refine lv_aload_n hx hb dX3_testBits_53 rfl (lv_at hl 2 rfl) ?_
      refine gf_X3_139 (v := .int o_this.2.2.2.2.2.1) hx hb hown ht hK hP 0 rfl rfl dX3_testBits_54 ?_
      refine lv_icmp_ne (tgt := 64) hx hb dX3_testBits_57 (by decide) (fun c_5 => ?_) (fun c_5 => ?_)
      · skip
        rw [if_neg c_5] at hF
        refine lv_iconst (v := 1) hx hb dX3_testBits_64 (by decide) ?_
        refine pf_X3_209 (x := 1) hx hb hown ht hK hP hD hS 1 rfl (Nat.le_of_ble_eq_true rfl) dX3_testBits_65 (fun H locs hP hD hS => ?_)
        have hP : va_P D vwCl [(a_this, oX3 a_this_storage a_this_status a_this_channel a_this_registers a_this_first a_this_second o_this), (a_this_status, oX5 (o_this_status.1, o_this_status.2.1, 1, o_this_status.2.2.2)), (a_this_storage, oX6 a_this_storage_bytes a_this_storage_keys), (a_this_storage_bytes, .inl (k_this_storage_bytes, 2048, .inl r_this_storage_bytes))] H := hP
        have hD : va_D A [(a_this, oX3 a_this_storage a_this_status a_this_channel a_this_registers a_this_first a_this_second o_this), (a_this_status, oX5 (o_this_status.1, o_this_status.2.1, 1, o_this_status.2.2.2)), (a_this_storage, oX6 a_this_storage_bytes a_this_storage_keys), (a_this_storage_bytes, .inl (k_this_storage_bytes, 2048, .inl r_this_storage_bytes))] := hD
        refine lv_iconst (v := 0) hx hb dX3_testBits_68 (by decide) ?_
        exact hQ 0 (0, (o_this_status.1, o_this_status.2.1, 1, o_this_status.2.2.2)) _ _ _ _ dX3_testBits_69 ⟨hF.symm, rfl⟩ hP hD hS
      · skip
        rw [if_pos c_5] at hF
        refine lv_iconst (v := 3) hx hb dX3_testBits_60 (by decide) ?_
        refine lv_goto (tgt := 65) hx hb dX3_testBits_61 (by decide) ?_
        refine pf_X3_209 (x := 3) hx hb hown ht hK hP hD hS 1 rfl (Nat.le_of_ble_eq_true rfl) dX3_testBits_65 (fun H locs hP hD hS => ?_)
        have hP : va_P D vwCl [(a_this, oX3 a_this_storage a_this_status a_this_channel a_this_registers a_this_first a_this_second o_this), (a_this_status, oX5 (o_this_status.1, o_this_status.2.1, 3, o_this_status.2.2.2)), (a_this_storage, oX6 a_this_storage_bytes a_this_storage_keys), (a_this_storage_bytes, .inl (k_this_storage_bytes, 2048, .inl r_this_storage_bytes))] H := hP
        have hD : va_D A [(a_this, oX3 a_this_storage a_this_status a_this_channel a_this_registers a_this_first a_this_second o_this), (a_this_status, oX5 (o_this_status.1, o_this_status.2.1, 3, o_this_status.2.2.2)), (a_this_storage, oX6 a_this_storage_bytes a_this_storage_keys), (a_this_storage_bytes, .inl (k_this_storage_bytes, 2048, .inl r_this_storage_bytes))] := hD
        refine lv_iconst (v := 0) hx hb dX3_testBits_68 (by decide) ?_
        exact hQ 0 (0, (o_this_status.1, o_this_status.2.1, 3, o_this_status.2.2.2)) _ _ _ _ dX3_testBits_69 ⟨hF.symm, rfl⟩ hP hD hS
    · skip
      rw [if_pos c_4] at hF
      refine lv_aload_n hx hb dX3_testBits_37 rfl (lv_at hl 2 rfl) ?_
      refine gf_X3_21 (v := .ref a_this_status) hx hb hown ht hK hP 0 rfl rfl dX3_testBits_38 ?_
      refine lv_iconst (v := 0) hx hb dX3_testBits_41 (by decide) ?_
      refine pf_X3_209 (x := 0) hx hb hown ht hK hP hD hS 1 rfl (Nat.le_of_ble_eq_true rfl) dX3_testBits_42 (fun H locs hP hD hS => ?_)
      have hP : va_P D vwCl [(a_this, oX3 a_this_storage a_this_status a_this_channel a_this_registers a_this_first a_this_second o_this), (a_this_status, oX5 (o_this_status.1, o_this_status.2.1, 0, o_this_status.2.2.2)), (a_this_storage, oX6 a_this_storage_bytes a_this_storage_keys), (a_this_storage_bytes, .inl (k_this_storage_bytes, 2048, .inl r_this_storage_bytes))] H := hP
      have hD : va_D A [(a_this, oX3 a_this_storage a_this_status a_this_channel a_this_registers a_this_first a_this_second o_this), (a_this_status, oX5 (o_this_status.1, o_this_status.2.1, 0, o_this_status.2.2.2)), (a_this_storage, oX6 a_this_storage_bytes a_this_storage_keys), (a_this_storage_bytes, .inl (k_this_storage_bytes, 2048, .inl r_this_storage_bytes))] := hD
      refine lv_goto (tgt := 68) hx hb dX3_testBits_45 (by decide) ?_
      refine lv_iconst (v := 0) hx hb dX3_testBits_68 (by decide) ?_
      exact hQ 0 (0, (o_this_status.1, o_this_status.2.1, 0, o_this_status.2.2.2)) _ _ _ _ dX3_testBits_69 ⟨hF.symm, rfl⟩ hP hD hS
  · skip
    rw [if_neg c_2] at hF
    refine lv_iload_n hx hb dX3_testBits_14 rfl (lv_at hl 0 rfl) ?_
    exact hQ (f_X3_readFault o_this.2.2.2.2.2.2.2.2.1 1 1) ((f_X3_readFault o_this.2.2.2.2.2.2.2.2.1 1 1), o_this_status) _ _ _ _ dX3_testBits_15 ⟨hF.symm, rfl⟩ hP hD hS
theorem cv_X3_testBits : qV yX3_testBits cX3_testBits 3 (some .int) 0 := ⟨kc_X3_testBits, kt_X3_testBits, ks_X3_testBits, kn_X3, by decide, by decide +kernel⟩
def f_X3_storeLogical (o_this : Bool × Int32 × Int32 × Int32 × Int32 × Int32 × Int32 × Int32 × Int32 × Int32) (o_this_status : Int32 × Int32 × Int32 × Int32) (r_this_storage_bytes : Nat → Int32) (r_this_storage_keys : Nat → Int32) (p1 : Int32) : Int32 × (Int32 × Int32 × Int32 × Int32) × (Nat → Int32) := (if (f_X3_storeFault o_this_status r_this_storage_keys o_this.2.2.2.2.2.2.2.2.1 1 1) = 0 then (q_let (f_X6_putByte r_this_storage_bytes o_this.2.2.2.2.2.2.2.2.1 p1) fun w_3 => (if p1 = 0 then ((f_X3_storeFault o_this_status r_this_storage_keys o_this.2.2.2.2.2.2.2.2.1 1 1), (o_this_status.1, o_this_status.2.1, 0, o_this_status.2.2.2), w_3) else ((f_X3_storeFault o_this_status r_this_storage_keys o_this.2.2.2.2.2.2.2.2.1 1 1), (o_this_status.1, o_this_status.2.1, 1, o_this_status.2.2.2), w_3))) else ((f_X3_storeFault o_this_status r_this_storage_keys o_this.2.2.2.2.2.2.2.2.1 1 1), o_this_status, r_this_storage_bytes))
set_option linter.all false in
set_option maxHeartbeats 4000000 in
set_option maxRecDepth 100000 in
theorem c_X3_storeLogical (l : Launch) (D : va_G) (a_this a_this_status a_this_storage a_this_storage_bytes a_this_storage_keys a_this_channel a_this_registers a_this_first a_this_second : Nat) (k_this_storage_bytes k_this_storage_keys : ClassId) (o_this : Bool × Int32 × Int32 × Int32 × Int32 × Int32 × Int32 × Int32 × Int32 × Int32) (o_this_status : Int32 × Int32 × Int32 × Int32) (r_this_storage_bytes : Nat → Int32) (r_this_storage_keys : Nat → Int32) (p1 : Int32) : CtI l yX3_storeLogical cX3_storeLogical 3 (some .int) { frames := 3, cells := 0, slots := 0, locals := 72 } D [.ref a_this, .int p1] [(a_this, oX3 a_this_storage a_this_status a_this_channel a_this_registers a_this_first a_this_second o_this), (a_this_status, oX5 o_this_status), (a_this_storage, oX6 a_this_storage_bytes a_this_storage_keys), (a_this_storage_bytes, .inl (k_this_storage_bytes, 2048, .inl r_this_storage_bytes)), (a_this_storage_keys, .inl (k_this_storage_keys, 8, .inl r_this_storage_keys))] [(k_this_storage_bytes, .byte), (k_this_storage_keys, .int)] (fun (r : Int32) (u : Int32 × (Int32 × Int32 × Int32 × Int32) × (Nat → Int32)) => f_X3_storeLogical o_this o_this_status r_this_storage_bytes r_this_storage_keys p1 = u ∧ r = u.1) (fun u => [(a_this, oX3 a_this_storage a_this_status a_this_channel a_this_registers a_this_first a_this_second o_this), (a_this_status, oX5 u.2.1), (a_this_storage, oX6 a_this_storage_bytes a_this_storage_keys), (a_this_storage_bytes, .inl (k_this_storage_bytes, 2048, .inl u.2.2)), (a_this_storage_keys, .inl (k_this_storage_keys, 8, .inl r_this_storage_keys))]) := by
  refine CtI.of (by decide) (Nat.le_of_ble_eq_true rfl) ?_
  intro p e s m below meth c A ls Q hE hP hD hS hl hQ
  obtain ⟨hx, hb, hml, hown, ht, hN, hK, hA⟩ := hE
  have hown : s.vm.findClass RX3 = some m.cls := hown
  have hl : lv_has ls 3 [(0, .ref a_this), (1, .int p1)] := hl
  obtain ⟨F, hF⟩ : ∃ F, f_X3_storeLogical o_this o_this_status r_this_storage_bytes r_this_storage_keys p1 = F := ⟨_, rfl⟩
  rw [hF] at hQ
  unfold f_X3_storeLogical at hF
  refine lv_aload_n hx hb dX3_storeLogical_0 rfl (lv_at hl 0 rfl) ?_
  refine lv_aload_n hx hb dX3_storeLogical_1 rfl (lv_at hl 0 rfl) ?_
  refine gf_X3_152 (v := .int o_this.2.2.2.2.2.2.2.2.1) hx hb hown ht hK hP 0 rfl rfl dX3_storeLogical_2 ?_
  refine lv_iconst (v := 1) hx hb dX3_storeLogical_5 (by decide) ?_
  refine lv_iconst (v := 1) hx hb dX3_storeLogical_6 (by decide) ?_
  refine q_Vi (rest := []) (c_X3_storeFault l D a_this a_this_status a_this_storage a_this_storage_keys a_this_channel a_this_registers a_this_first a_this_second a_this_storage_bytes k_this_storage_keys o_this o_this_status r_this_storage_keys o_this.2.2.2.2.2.2.2.2.1 1 1) cv_X3_storeFault hx hb hml hown ht hN hK hA hP hD hS hl.1 (km_X3_264) ⟨Nat.le_of_ble_eq_true rfl, Nat.le_of_ble_eq_true rfl⟩ rfl rfl [0, 1, 2, 4] (by decide) rfl [1] rfl (fun _ => rfl) (ci := 3) rfl rfl rfl rfl rfl (Nat.le_of_ble_eq_true rfl) dX3_storeLogical_7 ⟨Nat.zero_le _, Nat.zero_le _⟩ (fun r u H locs hw hP hD hS => ?_)
  obtain ⟨rfl, rfl⟩ := hw
  have hP : va_P D vwCl [(a_this, oX3 a_this_storage a_this_status a_this_channel a_this_registers a_this_first a_this_second o_this), (a_this_status, oX5 o_this_status), (a_this_storage, oX6 a_this_storage_bytes a_this_storage_keys), (a_this_storage_bytes, .inl (k_this_storage_bytes, 2048, .inl r_this_storage_bytes)), (a_this_storage_keys, .inl (k_this_storage_keys, 8, .inl r_this_storage_keys))] H := hP
  have hD : va_D A [(a_this, oX3 a_this_storage a_this_status a_this_channel a_this_registers a_this_first a_this_second o_this), (a_this_status, oX5 o_this_status), (a_this_storage, oX6 a_this_storage_bytes a_this_storage_keys), (a_this_storage_bytes, .inl (k_this_storage_bytes, 2048, .inl r_this_storage_bytes)), (a_this_storage_keys, .inl (k_this_storage_keys, 8, .inl r_this_storage_keys))] := hD
  refine lv_istore_n (lv' := [(2, .int (f_X3_storeFault o_this_status r_this_storage_keys o_this.2.2.2.2.2.2.2.2.1 1 1)), (0, .ref a_this), (1, .int p1)]) hx hb dX3_storeLogical_10 rfl hl (by decide) rfl (fun ls hl => ?_)
  refine lv_iload_n hx hb dX3_storeLogical_11 rfl (lv_at hl 0 rfl) ?_
  refine lv_if_ne (tgt := 43) hx hb dX3_storeLogical_12 (by decide) (fun c_2 => ?_) (fun c_2 => ?_)
  · skip
    rw [if_neg c_2] at hF
    refine lv_iload_n hx hb dX3_storeLogical_43 rfl (lv_at hl 0 rfl) ?_
    exact hQ (f_X3_storeFault o_this_status r_this_storage_keys o_this.2.2.2.2.2.2.2.2.1 1 1) ((f_X3_storeFault o_this_status r_this_storage_keys o_this.2.2.2.2.2.2.2.2.1 1 1), o_this_status, r_this_storage_bytes) _ _ _ _ dX3_storeLogical_44 ⟨hF.symm, rfl⟩ hP hD hS
  · skip
    rw [if_pos c_2] at hF
    refine lv_aload_n hx hb dX3_storeLogical_15 rfl (lv_at hl 1 rfl) ?_
    refine gf_X3_12 (v := .ref a_this_storage) hx hb hown ht hK hP 0 rfl rfl dX3_storeLogical_16 ?_
    refine lv_aload_n hx hb dX3_storeLogical_19 rfl (lv_at hl 1 rfl) ?_
    refine gf_X3_152 (v := .int o_this.2.2.2.2.2.2.2.2.1) hx hb hown ht hK hP 0 rfl rfl dX3_storeLogical_20 ?_
    refine lv_iload_n hx hb dX3_storeLogical_23 rfl (lv_at hl 2 rfl) ?_
    refine q_Vv (rest := []) (c_X6_putByte l D a_this_storage a_this_storage_bytes a_this_storage_keys k_this_storage_bytes r_this_storage_bytes o_this.2.2.2.2.2.2.2.2.1 p1) cv_X6_putByte hx hb hml hown ht hN hK hA hP hD hS hl.1 (km_X3_270) ⟨Nat.le_of_ble_eq_true rfl, Nat.le_of_ble_eq_true rfl⟩ rfl rfl [2, 3] (by decide) rfl [0] rfl (fun _ => rfl) (ci := 6) rfl rfl rfl rfl rfl (Nat.le_of_ble_eq_true rfl) dX3_storeLogical_24 ⟨Nat.zero_le _, Nat.zero_le _⟩ (fun w_3 H locs hw hP hD hS => ?_)
    have hP : va_P D vwCl [(a_this, oX3 a_this_storage a_this_status a_this_channel a_this_registers a_this_first a_this_second o_this), (a_this_status, oX5 o_this_status), (a_this_storage, oX6 a_this_storage_bytes a_this_storage_keys), (a_this_storage_bytes, .inl (k_this_storage_bytes, 2048, .inl w_3)), (a_this_storage_keys, .inl (k_this_storage_keys, 8, .inl r_this_storage_keys))] H := hP
    have hD : va_D A [(a_this, oX3 a_this_storage a_this_status a_this_channel a_this_registers a_this_first a_this_second o_this), (a_this_status, oX5 o_this_status), (a_this_storage, oX6 a_this_storage_bytes a_this_storage_keys), (a_this_storage_bytes, .inl (k_this_storage_bytes, 2048, .inl w_3)), (a_this_storage_keys, .inl (k_this_storage_keys, 8, .inl r_this_storage_keys))] := hD
    rw [q_let_of hw] at hF
    refine lv_aload_n hx hb dX3_storeLogical_27 rfl (lv_at hl 1 rfl) ?_
    refine gf_X3_21 (v := .ref a_this_status) hx hb hown ht hK hP 0 rfl rfl dX3_storeLogical_28 ?_
    refine lv_iload_n hx hb dX3_storeLogical_31 rfl (lv_at hl 2 rfl) ?_
    refine lv_if_ne (tgt := 39) hx hb dX3_storeLogical_32 (by decide) (fun c_4 => ?_) (fun c_4 => ?_)
    · skip
      rw [if_neg c_4] at hF
      refine lv_iconst (v := 1) hx hb dX3_storeLogical_39 (by decide) ?_
      refine pf_X3_209 (x := 1) hx hb hown ht hK hP hD hS 1 rfl (Nat.le_of_ble_eq_true rfl) dX3_storeLogical_40 (fun H locs hP hD hS => ?_)
      have hP : va_P D vwCl [(a_this, oX3 a_this_storage a_this_status a_this_channel a_this_registers a_this_first a_this_second o_this), (a_this_status, oX5 (o_this_status.1, o_this_status.2.1, 1, o_this_status.2.2.2)), (a_this_storage, oX6 a_this_storage_bytes a_this_storage_keys), (a_this_storage_bytes, .inl (k_this_storage_bytes, 2048, .inl w_3)), (a_this_storage_keys, .inl (k_this_storage_keys, 8, .inl r_this_storage_keys))] H := hP
      have hD : va_D A [(a_this, oX3 a_this_storage a_this_status a_this_channel a_this_registers a_this_first a_this_second o_this), (a_this_status, oX5 (o_this_status.1, o_this_status.2.1, 1, o_this_status.2.2.2)), (a_this_storage, oX6 a_this_storage_bytes a_this_storage_keys), (a_this_storage_bytes, .inl (k_this_storage_bytes, 2048, .inl w_3)), (a_this_storage_keys, .inl (k_this_storage_keys, 8, .inl r_this_storage_keys))] := hD
      refine lv_iload_n hx hb dX3_storeLogical_43 rfl (lv_at hl 0 rfl) ?_
      exact hQ (f_X3_storeFault o_this_status r_this_storage_keys o_this.2.2.2.2.2.2.2.2.1 1 1) ((f_X3_storeFault o_this_status r_this_storage_keys o_this.2.2.2.2.2.2.2.2.1 1 1), (o_this_status.1, o_this_status.2.1, 1, o_this_status.2.2.2), w_3) _ _ _ _ dX3_storeLogical_44 ⟨hF.symm, rfl⟩ hP hD hS
    · skip
      rw [if_pos c_4] at hF
      refine lv_iconst (v := 0) hx hb dX3_storeLogical_35 (by decide) ?_
      refine lv_goto (tgt := 40) hx hb dX3_storeLogical_36 (by decide) ?_
      refine pf_X3_209 (x := 0) hx hb hown ht hK hP hD hS 1 rfl (Nat.le_of_ble_eq_true rfl) dX3_storeLogical_40 (fun H locs hP hD hS => ?_)
      have hP : va_P D vwCl [(a_this, oX3 a_this_storage a_this_status a_this_channel a_this_registers a_this_first a_this_second o_this), (a_this_status, oX5 (o_this_status.1, o_this_status.2.1, 0, o_this_status.2.2.2)), (a_this_storage, oX6 a_this_storage_bytes a_this_storage_keys), (a_this_storage_bytes, .inl (k_this_storage_bytes, 2048, .inl w_3)), (a_this_storage_keys, .inl (k_this_storage_keys, 8, .inl r_this_storage_keys))] H := hP
      have hD : va_D A [(a_this, oX3 a_this_storage a_this_status a_this_channel a_this_registers a_this_first a_this_second o_this), (a_this_status, oX5 (o_this_status.1, o_this_status.2.1, 0, o_this_status.2.2.2)), (a_this_storage, oX6 a_this_storage_bytes a_this_storage_keys), (a_this_storage_bytes, .inl (k_this_storage_bytes, 2048, .inl w_3)), (a_this_storage_keys, .inl (k_this_storage_keys, 8, .inl r_this_storage_keys))] := hD
      refine lv_iload_n hx hb dX3_storeLogical_43 rfl (lv_at hl 0 rfl) ?_
      exact hQ (f_X3_storeFault o_this_status r_this_storage_keys o_this.2.2.2.2.2.2.2.2.1 1 1) ((f_X3_storeFault o_this_status r_this_storage_keys o_this.2.2.2.2.2.2.2.2.1 1 1), (o_this_status.1, o_this_status.2.1, 0, o_this_status.2.2.2), w_3) _ _ _ _ dX3_storeLogical_44 ⟨hF.symm, rfl⟩ hP hD hS
theorem cv_X3_storeLogical : qV yX3_storeLogical cX3_storeLogical 3 (some .int) 1 := ⟨kc_X3_storeLogical, kt_X3_storeLogical, ks_X3_storeLogical, kn_X3, by decide, by decide +kernel⟩
def f_X3_compareByte (o_this : Bool × Int32 × Int32 × Int32 × Int32 × Int32 × Int32 × Int32 × Int32 × Int32) (o_this_status : Int32 × Int32 × Int32 × Int32) (r_this_storage_bytes : Nat → Int32) : Int32 × (Int32 × Int32 × Int32 × Int32) := (if (f_X3_readFault o_this.2.2.2.2.2.2.2.2.1 1 1) = 0 then ((f_X3_readFault o_this.2.2.2.2.2.2.2.2.1 1 1), (o_this_status.1, o_this_status.2.1, (f_X7_order ((f_X6_byteAt r_this_storage_bytes o_this.2.2.2.2.2.2.2.2.1).toInt64) o_this.2.2.2.2.2.1.toInt64), o_this_status.2.2.2)) else ((f_X3_readFault o_this.2.2.2.2.2.2.2.2.1 1 1), o_this_status))
set_option linter.all false in
set_option maxHeartbeats 4000000 in
set_option maxRecDepth 100000 in
theorem c_X3_compareByte (l : Launch) (D : va_G) (a_this a_this_status a_this_storage a_this_storage_bytes a_this_channel a_this_registers a_this_first a_this_second a_this_storage_keys : Nat) (k_this_storage_bytes : ClassId) (o_this : Bool × Int32 × Int32 × Int32 × Int32 × Int32 × Int32 × Int32 × Int32 × Int32) (o_this_status : Int32 × Int32 × Int32 × Int32) (r_this_storage_bytes : Nat → Int32) : CtI l yX3_compareByte cX3_compareByte 2 (some .int) { frames := 2, cells := 0, slots := 0, locals := 43 } D [.ref a_this] [(a_this, oX3 a_this_storage a_this_status a_this_channel a_this_registers a_this_first a_this_second o_this), (a_this_status, oX5 o_this_status), (a_this_storage, oX6 a_this_storage_bytes a_this_storage_keys), (a_this_storage_bytes, .inl (k_this_storage_bytes, 2048, .inl r_this_storage_bytes))] [(k_this_storage_bytes, .byte)] (fun (r : Int32) (u : Int32 × (Int32 × Int32 × Int32 × Int32)) => f_X3_compareByte o_this o_this_status r_this_storage_bytes = u ∧ r = u.1) (fun u => [(a_this, oX3 a_this_storage a_this_status a_this_channel a_this_registers a_this_first a_this_second o_this), (a_this_status, oX5 u.2), (a_this_storage, oX6 a_this_storage_bytes a_this_storage_keys), (a_this_storage_bytes, .inl (k_this_storage_bytes, 2048, .inl r_this_storage_bytes))]) := by
  refine CtI.of (by decide) (Nat.le_of_ble_eq_true rfl) ?_
  intro p e s m below meth c A ls Q hE hP hD hS hl hQ
  obtain ⟨hx, hb, hml, hown, ht, hN, hK, hA⟩ := hE
  have hown : s.vm.findClass RX3 = some m.cls := hown
  have hl : lv_has ls 2 [(0, .ref a_this)] := hl
  obtain ⟨F, hF⟩ : ∃ F, f_X3_compareByte o_this o_this_status r_this_storage_bytes = F := ⟨_, rfl⟩
  rw [hF] at hQ
  unfold f_X3_compareByte at hF
  refine lv_aload_n hx hb dX3_compareByte_0 rfl (lv_at hl 0 rfl) ?_
  refine gf_X3_152 (v := .int o_this.2.2.2.2.2.2.2.2.1) hx hb hown ht hK hP 0 rfl rfl dX3_compareByte_1 ?_
  refine lv_iconst (v := 1) hx hb dX3_compareByte_4 (by decide) ?_
  refine lv_iconst (v := 1) hx hb dX3_compareByte_5 (by decide) ?_
  refine q_Si (rest := []) (c_X3_readFault l D o_this.2.2.2.2.2.2.2.2.1 1 1) cv_X3_readFault hx hb hml hown ht hN hK hA hP hD hS hl.1 (km_X3_165) ⟨Nat.le_of_ble_eq_true rfl, Nat.le_of_ble_eq_true rfl⟩ rfl rfl [] (by decide) rfl [] rfl (fun _ => rfl) rfl rfl (Nat.le_of_ble_eq_true rfl) dX3_compareByte_6 ⟨Nat.zero_le _, Nat.zero_le _⟩ (fun r u H locs hw hP hD hS => ?_)
  obtain ⟨rfl, rfl⟩ := hw
  have hP : va_P D vwCl [(a_this, oX3 a_this_storage a_this_status a_this_channel a_this_registers a_this_first a_this_second o_this), (a_this_status, oX5 o_this_status), (a_this_storage, oX6 a_this_storage_bytes a_this_storage_keys), (a_this_storage_bytes, .inl (k_this_storage_bytes, 2048, .inl r_this_storage_bytes))] H := hP
  have hD : va_D A [(a_this, oX3 a_this_storage a_this_status a_this_channel a_this_registers a_this_first a_this_second o_this), (a_this_status, oX5 o_this_status), (a_this_storage, oX6 a_this_storage_bytes a_this_storage_keys), (a_this_storage_bytes, .inl (k_this_storage_bytes, 2048, .inl r_this_storage_bytes))] := hD
  refine lv_istore_n (lv' := [(1, .int (f_X3_readFault o_this.2.2.2.2.2.2.2.2.1 1 1)), (0, .ref a_this)]) hx hb dX3_compareByte_9 rfl hl (by decide) rfl (fun ls hl => ?_)
  refine lv_iload_n hx hb dX3_compareByte_10 rfl (lv_at hl 0 rfl) ?_
  refine lv_if_ne (tgt := 41) hx hb dX3_compareByte_11 (by decide) (fun c_2 => ?_) (fun c_2 => ?_)
  · skip
    rw [if_neg c_2] at hF
    refine lv_iload_n hx hb dX3_compareByte_41 rfl (lv_at hl 0 rfl) ?_
    exact hQ (f_X3_readFault o_this.2.2.2.2.2.2.2.2.1 1 1) ((f_X3_readFault o_this.2.2.2.2.2.2.2.2.1 1 1), o_this_status) _ _ _ _ dX3_compareByte_42 ⟨hF.symm, rfl⟩ hP hD hS
  · skip
    rw [if_pos c_2] at hF
    refine lv_aload_n hx hb dX3_compareByte_14 rfl (lv_at hl 1 rfl) ?_
    refine gf_X3_21 (v := .ref a_this_status) hx hb hown ht hK hP 0 rfl rfl dX3_compareByte_15 ?_
    refine lv_aload_n hx hb dX3_compareByte_18 rfl (lv_at hl 1 rfl) ?_
    refine gf_X3_12 (v := .ref a_this_storage) hx hb hown ht hK hP 0 rfl rfl dX3_compareByte_19 ?_
    refine lv_aload_n hx hb dX3_compareByte_22 rfl (lv_at hl 1 rfl) ?_
    refine gf_X3_152 (v := .int o_this.2.2.2.2.2.2.2.2.1) hx hb hown ht hK hP 0 rfl rfl dX3_compareByte_23 ?_
    refine q_Vi (rest := [.ref a_this_status]) (c_X6_byteAt l D a_this_storage a_this_storage_bytes a_this_storage_keys k_this_storage_bytes r_this_storage_bytes o_this.2.2.2.2.2.2.2.2.1) cv_X6_byteAt hx hb hml hown ht hN hK hA hP hD hS hl.1 (km_X3_119) ⟨Nat.le_of_ble_eq_true rfl, Nat.le_of_ble_eq_true rfl⟩ rfl rfl [2, 3] (by decide) rfl [0] rfl (fun _ => rfl) (ci := 6) rfl rfl rfl rfl rfl (Nat.le_of_ble_eq_true rfl) dX3_compareByte_26 ⟨Nat.zero_le _, Nat.zero_le _⟩ (fun r u H locs hw hP hD hS => ?_)
    obtain ⟨rfl, rfl⟩ := hw
    have hP : va_P D vwCl [(a_this, oX3 a_this_storage a_this_status a_this_channel a_this_registers a_this_first a_this_second o_this), (a_this_status, oX5 o_this_status), (a_this_storage, oX6 a_this_storage_bytes a_this_storage_keys), (a_this_storage_bytes, .inl (k_this_storage_bytes, 2048, .inl r_this_storage_bytes))] H := hP
    have hD : va_D A [(a_this, oX3 a_this_storage a_this_status a_this_channel a_this_registers a_this_first a_this_second o_this), (a_this_status, oX5 o_this_status), (a_this_storage, oX6 a_this_storage_bytes a_this_storage_keys), (a_this_storage_bytes, .inl (k_this_storage_bytes, 2048, .inl r_this_storage_bytes))] := hD
    refine lv_i2l hx hb dX3_compareByte_29 rfl ?_
    refine lv_aload_n hx hb dX3_compareByte_30 rfl (lv_at hl 1 rfl) ?_
    refine gf_X3_139 (v := .int o_this.2.2.2.2.2.1) hx hb hown ht hK hP 0 rfl rfl dX3_compareByte_31 ?_
    refine lv_i2l hx hb dX3_compareByte_34 rfl ?_
    refine q_Ni (rest := [.ref a_this_status]) (c_X7_order l D ((f_X6_byteAt r_this_storage_bytes o_this.2.2.2.2.2.2.2.2.1).toInt64) o_this.2.2.2.2.2.1.toInt64) cv_X7_order hx hb hml hown ht hN hK hA hP hD hS hl.1 (hN.2.2) ⟨Nat.le_of_ble_eq_true rfl, Nat.le_of_ble_eq_true rfl⟩ rfl rfl [] (by decide) rfl [] rfl (fun _ => rfl) rfl rfl (Nat.le_of_ble_eq_true rfl) dX3_compareByte_35 ⟨Nat.zero_le _, Nat.zero_le _⟩ (fun r u H locs hw hP hD hS => ?_)
    obtain ⟨rfl, rfl⟩ := hw
    have hP : va_P D vwCl [(a_this, oX3 a_this_storage a_this_status a_this_channel a_this_registers a_this_first a_this_second o_this), (a_this_status, oX5 o_this_status), (a_this_storage, oX6 a_this_storage_bytes a_this_storage_keys), (a_this_storage_bytes, .inl (k_this_storage_bytes, 2048, .inl r_this_storage_bytes))] H := hP
    have hD : va_D A [(a_this, oX3 a_this_storage a_this_status a_this_channel a_this_registers a_this_first a_this_second o_this), (a_this_status, oX5 o_this_status), (a_this_storage, oX6 a_this_storage_bytes a_this_storage_keys), (a_this_storage_bytes, .inl (k_this_storage_bytes, 2048, .inl r_this_storage_bytes))] := hD
    refine pf_X3_209 (x := (f_X7_order ((f_X6_byteAt r_this_storage_bytes o_this.2.2.2.2.2.2.2.2.1).toInt64) o_this.2.2.2.2.2.1.toInt64)) hx hb hown ht hK hP hD hS 1 rfl (Nat.le_of_ble_eq_true rfl) dX3_compareByte_38 (fun H locs hP hD hS => ?_)
    have hP : va_P D vwCl [(a_this, oX3 a_this_storage a_this_status a_this_channel a_this_registers a_this_first a_this_second o_this), (a_this_status, oX5 (o_this_status.1, o_this_status.2.1, (f_X7_order ((f_X6_byteAt r_this_storage_bytes o_this.2.2.2.2.2.2.2.2.1).toInt64) o_this.2.2.2.2.2.1.toInt64), o_this_status.2.2.2)), (a_this_storage, oX6 a_this_storage_bytes a_this_storage_keys), (a_this_storage_bytes, .inl (k_this_storage_bytes, 2048, .inl r_this_storage_bytes))] H := hP
    have hD : va_D A [(a_this, oX3 a_this_storage a_this_status a_this_channel a_this_registers a_this_first a_this_second o_this), (a_this_status, oX5 (o_this_status.1, o_this_status.2.1, (f_X7_order ((f_X6_byteAt r_this_storage_bytes o_this.2.2.2.2.2.2.2.2.1).toInt64) o_this.2.2.2.2.2.1.toInt64), o_this_status.2.2.2)), (a_this_storage, oX6 a_this_storage_bytes a_this_storage_keys), (a_this_storage_bytes, .inl (k_this_storage_bytes, 2048, .inl r_this_storage_bytes))] := hD
    refine lv_iload_n hx hb dX3_compareByte_41 rfl (lv_at hl 0 rfl) ?_
    exact hQ (f_X3_readFault o_this.2.2.2.2.2.2.2.2.1 1 1) ((f_X3_readFault o_this.2.2.2.2.2.2.2.2.1 1 1), (o_this_status.1, o_this_status.2.1, (f_X7_order ((f_X6_byteAt r_this_storage_bytes o_this.2.2.2.2.2.2.2.2.1).toInt64) o_this.2.2.2.2.2.1.toInt64), o_this_status.2.2.2)) _ _ _ _ dX3_compareByte_42 ⟨hF.symm, rfl⟩ hP hD hS
theorem cv_X3_compareByte : qV yX3_compareByte cX3_compareByte 2 (some .int) 0 := ⟨kc_X3_compareByte, kt_X3_compareByte, ks_X3_compareByte, kn_X3, by decide, by decide +kernel⟩
def f_X3_startChannel (o_this : Bool × Int32 × Int32 × Int32 × Int32 × Int32 × Int32 × Int32 × Int32 × Int32) (o_this_channel : Bool × Bool × Int32 × Int32 × Int32 × Bool × Bool × Bool × Int32 × Int32 × Int32 × Int32 × Int32) (o_this_status : Int32 × Int32 × Int32 × Int32) (r_this_storage_bytes : Nat → Int32) : Int32 × (Bool × Bool × Int32 × Int32 × Int32 × Bool × Bool × Bool × Int32 × Int32 × Int32 × Int32 × Int32) × (Int32 × Int32 × Int32 × Int32) := (q_let (f_X0_start o_this_channel r_this_storage_bytes o_this.2.2.2.2.2.1) fun w_1 => (0, w_1.2, (o_this_status.1, o_this_status.2.1, w_1.1, o_this_status.2.2.2)))
set_option linter.all false in
set_option maxHeartbeats 4000000 in
set_option maxRecDepth 100000 in
theorem c_X3_startChannel (l : Launch) (D : va_G) (a_this a_this_channel a_this_status a_this_storage a_this_storage_bytes a_this_registers a_this_first a_this_second a_this_channel_reader a_this_channel_printer a_this_storage_keys : Nat) (k_this_storage_bytes : ClassId) (o_this : Bool × Int32 × Int32 × Int32 × Int32 × Int32 × Int32 × Int32 × Int32 × Int32) (o_this_channel : Bool × Bool × Int32 × Int32 × Int32 × Bool × Bool × Bool × Int32 × Int32 × Int32 × Int32 × Int32) (o_this_status : Int32 × Int32 × Int32 × Int32) (r_this_storage_bytes : Nat → Int32) : CtI l yX3_startChannel cX3_startChannel 1 (some .int) { frames := 3, cells := 0, slots := 0, locals := 67 } D [.ref a_this] [(a_this, oX3 a_this_storage a_this_status a_this_channel a_this_registers a_this_first a_this_second o_this), (a_this_channel, oX0 a_this_channel_reader a_this_channel_printer o_this_channel), (a_this_status, oX5 o_this_status), (a_this_storage, oX6 a_this_storage_bytes a_this_storage_keys), (a_this_storage_bytes, .inl (k_this_storage_bytes, 2048, .inl r_this_storage_bytes))] [(k_this_storage_bytes, .byte)] (fun (r : Int32) (u : Int32 × (Bool × Bool × Int32 × Int32 × Int32 × Bool × Bool × Bool × Int32 × Int32 × Int32 × Int32 × Int32) × (Int32 × Int32 × Int32 × Int32)) => f_X3_startChannel o_this o_this_channel o_this_status r_this_storage_bytes = u ∧ r = u.1) (fun u => [(a_this, oX3 a_this_storage a_this_status a_this_channel a_this_registers a_this_first a_this_second o_this), (a_this_channel, oX0 a_this_channel_reader a_this_channel_printer u.2.1), (a_this_status, oX5 u.2.2), (a_this_storage, oX6 a_this_storage_bytes a_this_storage_keys), (a_this_storage_bytes, .inl (k_this_storage_bytes, 2048, .inl r_this_storage_bytes))]) := by
  refine CtI.of (by decide) (Nat.le_of_ble_eq_true rfl) ?_
  intro p e s m below meth c A ls Q hE hP hD hS hl hQ
  obtain ⟨hx, hb, hml, hown, ht, hN, hK, hA⟩ := hE
  have hown : s.vm.findClass RX3 = some m.cls := hown
  have hl : lv_has ls 1 [(0, .ref a_this)] := hl
  obtain ⟨F, hF⟩ : ∃ F, f_X3_startChannel o_this o_this_channel o_this_status r_this_storage_bytes = F := ⟨_, rfl⟩
  rw [hF] at hQ
  unfold f_X3_startChannel at hF
  refine lv_aload_n hx hb dX3_startChannel_0 rfl (lv_at hl 0 rfl) ?_
  refine gf_X3_21 (v := .ref a_this_status) hx hb hown ht hK hP 0 rfl rfl dX3_startChannel_1 ?_
  refine lv_aload_n hx hb dX3_startChannel_4 rfl (lv_at hl 0 rfl) ?_
  refine gf_X3_28 (v := .ref a_this_channel) hx hb hown ht hK hP 0 rfl rfl dX3_startChannel_5 ?_
  refine lv_aload_n hx hb dX3_startChannel_8 rfl (lv_at hl 0 rfl) ?_
  refine gf_X3_12 (v := .ref a_this_storage) hx hb hown ht hK hP 0 rfl rfl dX3_startChannel_9 ?_
  refine lv_aload_n hx hb dX3_startChannel_12 rfl (lv_at hl 0 rfl) ?_
  refine gf_X3_139 (v := .int o_this.2.2.2.2.2.1) hx hb hown ht hK hP 0 rfl rfl dX3_startChannel_13 ?_
  refine q_Vi (rest := [.ref a_this_status]) (c_X0_start l D a_this_channel a_this_storage a_this_storage_bytes a_this_channel_reader a_this_channel_printer a_this_storage_keys k_this_storage_bytes o_this_channel r_this_storage_bytes o_this.2.2.2.2.2.1) cv_X0_start hx hb hml hown ht hN hK hA hP hD hS hl.1 (km_X3_319) ⟨Nat.le_of_ble_eq_true rfl, Nat.le_of_ble_eq_true rfl⟩ rfl rfl [1, 3, 4] (by decide) rfl [0] rfl (fun _ => rfl) (ci := 0) rfl rfl rfl rfl rfl (Nat.le_of_ble_eq_true rfl) dX3_startChannel_16 ⟨Nat.zero_le _, Nat.zero_le _⟩ (fun r w_1 H locs hw hP hD hS => ?_)
  obtain ⟨hw, hr⟩ := hw
  subst hr
  have hP : va_P D vwCl [(a_this, oX3 a_this_storage a_this_status a_this_channel a_this_registers a_this_first a_this_second o_this), (a_this_channel, oX0 a_this_channel_reader a_this_channel_printer w_1.2), (a_this_status, oX5 o_this_status), (a_this_storage, oX6 a_this_storage_bytes a_this_storage_keys), (a_this_storage_bytes, .inl (k_this_storage_bytes, 2048, .inl r_this_storage_bytes))] H := hP
  have hD : va_D A [(a_this, oX3 a_this_storage a_this_status a_this_channel a_this_registers a_this_first a_this_second o_this), (a_this_channel, oX0 a_this_channel_reader a_this_channel_printer w_1.2), (a_this_status, oX5 o_this_status), (a_this_storage, oX6 a_this_storage_bytes a_this_storage_keys), (a_this_storage_bytes, .inl (k_this_storage_bytes, 2048, .inl r_this_storage_bytes))] := hD
  rw [q_let_of hw] at hF
  refine pf_X3_209 (x := w_1.1) hx hb hown ht hK hP hD hS 2 rfl (Nat.le_of_ble_eq_true rfl) dX3_startChannel_19 (fun H locs hP hD hS => ?_)
  have hP : va_P D vwCl [(a_this, oX3 a_this_storage a_this_status a_this_channel a_this_registers a_this_first a_this_second o_this), (a_this_channel, oX0 a_this_channel_reader a_this_channel_printer w_1.2), (a_this_status, oX5 (o_this_status.1, o_this_status.2.1, w_1.1, o_this_status.2.2.2)), (a_this_storage, oX6 a_this_storage_bytes a_this_storage_keys), (a_this_storage_bytes, .inl (k_this_storage_bytes, 2048, .inl r_this_storage_bytes))] H := hP
  have hD : va_D A [(a_this, oX3 a_this_storage a_this_status a_this_channel a_this_registers a_this_first a_this_second o_this), (a_this_channel, oX0 a_this_channel_reader a_this_channel_printer w_1.2), (a_this_status, oX5 (o_this_status.1, o_this_status.2.1, w_1.1, o_this_status.2.2.2)), (a_this_storage, oX6 a_this_storage_bytes a_this_storage_keys), (a_this_storage_bytes, .inl (k_this_storage_bytes, 2048, .inl r_this_storage_bytes))] := hD
  refine lv_iconst (v := 0) hx hb dX3_startChannel_22 (by decide) ?_
  exact hQ 0 (0, w_1.2, (o_this_status.1, o_this_status.2.1, w_1.1, o_this_status.2.2.2)) _ _ _ _ dX3_startChannel_23 ⟨hF.symm, rfl⟩ hP hD hS
theorem cv_X3_startChannel : qV yX3_startChannel cX3_startChannel 1 (some .int) 0 := ⟨kc_X3_startChannel, kt_X3_startChannel, ks_X3_startChannel, kn_X3, by decide, by decide +kernel⟩
def f_X3_testChannel (o_this_channel : Bool × Bool × Int32 × Int32 × Int32 × Bool × Bool × Bool × Int32 × Int32 × Int32 × Int32 × Int32) (o_this_status : Int32 × Int32 × Int32 × Int32) : Int32 × (Bool × Bool × Int32 × Int32 × Int32 × Bool × Bool × Bool × Int32 × Int32 × Int32 × Int32 × Int32) × (Int32 × Int32 × Int32 × Int32) := (q_let (f_X0_test o_this_channel) fun w_1 => (0, w_1.2, (o_this_status.1, o_this_status.2.1, w_1.1, o_this_status.2.2.2)))
set_option linter.all false in
set_option maxHeartbeats 4000000 in
set_option maxRecDepth 100000 in
theorem c_X3_testChannel (l : Launch) (D : va_G) (a_this a_this_channel a_this_status a_this_storage a_this_registers a_this_first a_this_second a_this_channel_reader a_this_channel_printer : Nat) (o_this : Bool × Int32 × Int32 × Int32 × Int32 × Int32 × Int32 × Int32 × Int32 × Int32) (o_this_channel : Bool × Bool × Int32 × Int32 × Int32 × Bool × Bool × Bool × Int32 × Int32 × Int32 × Int32 × Int32) (o_this_status : Int32 × Int32 × Int32 × Int32) : CtI l yX3_testChannel cX3_testChannel 1 (some .int) { frames := 1, cells := 0, slots := 0, locals := 21 } D [.ref a_this] [(a_this, oX3 a_this_storage a_this_status a_this_channel a_this_registers a_this_first a_this_second o_this), (a_this_channel, oX0 a_this_channel_reader a_this_channel_printer o_this_channel), (a_this_status, oX5 o_this_status)] [] (fun (r : Int32) (u : Int32 × (Bool × Bool × Int32 × Int32 × Int32 × Bool × Bool × Bool × Int32 × Int32 × Int32 × Int32 × Int32) × (Int32 × Int32 × Int32 × Int32)) => f_X3_testChannel o_this_channel o_this_status = u ∧ r = u.1) (fun u => [(a_this, oX3 a_this_storage a_this_status a_this_channel a_this_registers a_this_first a_this_second o_this), (a_this_channel, oX0 a_this_channel_reader a_this_channel_printer u.2.1), (a_this_status, oX5 u.2.2)]) := by
  refine CtI.of (by decide) (Nat.le_of_ble_eq_true rfl) ?_
  intro p e s m below meth c A ls Q hE hP hD hS hl hQ
  obtain ⟨hx, hb, hml, hown, ht, hN, hK, hA⟩ := hE
  have hown : s.vm.findClass RX3 = some m.cls := hown
  have hl : lv_has ls 1 [(0, .ref a_this)] := hl
  obtain ⟨F, hF⟩ : ∃ F, f_X3_testChannel o_this_channel o_this_status = F := ⟨_, rfl⟩
  rw [hF] at hQ
  unfold f_X3_testChannel at hF
  refine lv_aload_n hx hb dX3_testChannel_0 rfl (lv_at hl 0 rfl) ?_
  refine gf_X3_21 (v := .ref a_this_status) hx hb hown ht hK hP 0 rfl rfl dX3_testChannel_1 ?_
  refine lv_aload_n hx hb dX3_testChannel_4 rfl (lv_at hl 0 rfl) ?_
  refine gf_X3_28 (v := .ref a_this_channel) hx hb hown ht hK hP 0 rfl rfl dX3_testChannel_5 ?_
  refine q_Vi (rest := [.ref a_this_status]) (c_X0_test l D a_this_channel a_this_channel_reader a_this_channel_printer o_this_channel) cv_X0_test hx hb hml hown ht hN hK hA hP hD hS hl.1 (km_X3_323) ⟨Nat.le_of_ble_eq_true rfl, Nat.le_of_ble_eq_true rfl⟩ rfl rfl [1] (by decide) rfl [] rfl (fun _ => rfl) (ci := 0) rfl rfl rfl rfl rfl (Nat.le_of_ble_eq_true rfl) dX3_testChannel_8 ⟨Nat.zero_le _, Nat.zero_le _⟩ (fun r w_1 H locs hw hP hD hS => ?_)
  obtain ⟨hw, hr⟩ := hw
  subst hr
  have hP : va_P D vwCl [(a_this, oX3 a_this_storage a_this_status a_this_channel a_this_registers a_this_first a_this_second o_this), (a_this_channel, oX0 a_this_channel_reader a_this_channel_printer w_1.2), (a_this_status, oX5 o_this_status)] H := hP
  have hD : va_D A [(a_this, oX3 a_this_storage a_this_status a_this_channel a_this_registers a_this_first a_this_second o_this), (a_this_channel, oX0 a_this_channel_reader a_this_channel_printer w_1.2), (a_this_status, oX5 o_this_status)] := hD
  rw [q_let_of hw] at hF
  refine pf_X3_209 (x := w_1.1) hx hb hown ht hK hP hD hS 2 rfl (Nat.le_of_ble_eq_true rfl) dX3_testChannel_11 (fun H locs hP hD hS => ?_)
  have hP : va_P D vwCl [(a_this, oX3 a_this_storage a_this_status a_this_channel a_this_registers a_this_first a_this_second o_this), (a_this_channel, oX0 a_this_channel_reader a_this_channel_printer w_1.2), (a_this_status, oX5 (o_this_status.1, o_this_status.2.1, w_1.1, o_this_status.2.2.2))] H := hP
  have hD : va_D A [(a_this, oX3 a_this_storage a_this_status a_this_channel a_this_registers a_this_first a_this_second o_this), (a_this_channel, oX0 a_this_channel_reader a_this_channel_printer w_1.2), (a_this_status, oX5 (o_this_status.1, o_this_status.2.1, w_1.1, o_this_status.2.2.2))] := hD
  refine lv_iconst (v := 0) hx hb dX3_testChannel_14 (by decide) ?_
  exact hQ 0 (0, w_1.2, (o_this_status.1, o_this_status.2.1, w_1.1, o_this_status.2.2.2)) _ _ _ _ dX3_testChannel_15 ⟨hF.symm, rfl⟩ hP hD hS
theorem cv_X3_testChannel : qV yX3_testChannel cX3_testChannel 1 (some .int) 0 := ⟨kc_X3_testChannel, kt_X3_testChannel, ks_X3_testChannel, kn_X3, by decide, by decide +kernel⟩
