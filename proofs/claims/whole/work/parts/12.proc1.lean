
def f_X3_register (r_this_registers : Nat → Int32) (p1 : Int32) : Int32 := (r_this_registers (p1 &&& (15 : Int32)).toNatClampNeg)
set_option linter.all false in
set_option maxHeartbeats 4000000 in
set_option maxRecDepth 100000 in
theorem c_X3_register (l : Launch) (D : va_G) (a_this a_this_registers a_this_storage a_this_status a_this_channel a_this_first a_this_second : Nat) (k_this_registers : ClassId) (o_this : Bool × Int32 × Int32 × Int32 × Int32 × Int32 × Int32 × Int32 × Int32 × Int32) (r_this_registers : Nat → Int32) (p1 : Int32) : CtI l yX3_register cX3_register 2 (some .int) { frames := 0, cells := 0, slots := 0, locals := 0 } D [.ref a_this, .int p1] [(a_this, oX3 a_this_storage a_this_status a_this_channel a_this_registers a_this_first a_this_second o_this), (a_this_registers, .inl (k_this_registers, 16, .inl r_this_registers))] [(k_this_registers, .int)] (fun (r : Int32) (u : Int32) => f_X3_register r_this_registers p1 = u ∧ r = u) (fun u => [(a_this, oX3 a_this_storage a_this_status a_this_channel a_this_registers a_this_first a_this_second o_this), (a_this_registers, .inl (k_this_registers, 16, .inl r_this_registers))]) := by
  refine CtI.of (by decide) (Nat.le_of_ble_eq_true rfl) ?_
  intro p e s m below meth c A ls Q hE hP hD hS hl hQ
  obtain ⟨hx, hb, hml, hown, ht, hN, hK, hA⟩ := hE
  have hown : s.vm.findClass RX3 = some m.cls := hown
  have hl : lv_has ls 2 [(0, .ref a_this), (1, .int p1)] := hl
  obtain ⟨F, hF⟩ : ∃ F, f_X3_register r_this_registers p1 = F := ⟨_, rfl⟩
  rw [hF] at hQ
  unfold f_X3_register at hF
  refine lv_aload_n hx hb dX3_register_0 rfl (lv_at hl 0 rfl) ?_
  refine gf_X3_32 (v := .ref a_this_registers) hx hb hown ht hK hP 0 rfl rfl dX3_register_1 ?_
  refine lv_iload_n hx hb dX3_register_4 rfl (lv_at hl 1 rfl) ?_
  refine lv_bipush (v := 15) hx hb dX3_register_5 (by decide) ?_
  refine lv_iand hx hb dX3_register_7 ?_
  refine va_iald hx hb hK hP 1 0 rfl rfl (q_in16 _) dX3_register_8 ?_
  exact hQ (r_this_registers (p1 &&& (15 : Int32)).toNatClampNeg) (r_this_registers (p1 &&& (15 : Int32)).toNatClampNeg) _ _ _ _ dX3_register_9 ⟨hF.symm, rfl⟩ hP hD hS
theorem cv_X3_register : qV yX3_register cX3_register 2 (some .int) 1 := ⟨kc_X3_register, kt_X3_register, ks_X3_register, kn_X3, by decide, by decide +kernel⟩
def f_X3_putRegister (r_this_registers : Nat → Int32) (p1 : Int32) (p2 : Int32) : Nat → Int32 := (upd r_this_registers (p1 &&& (15 : Int32)).toNatClampNeg p2)
set_option linter.all false in
set_option maxHeartbeats 4000000 in
set_option maxRecDepth 100000 in
theorem c_X3_putRegister (l : Launch) (D : va_G) (a_this a_this_registers a_this_storage a_this_status a_this_channel a_this_first a_this_second : Nat) (k_this_registers : ClassId) (o_this : Bool × Int32 × Int32 × Int32 × Int32 × Int32 × Int32 × Int32 × Int32 × Int32) (r_this_registers : Nat → Int32) (p1 : Int32) (p2 : Int32) : CtV l yX3_putRegister cX3_putRegister 3 none { frames := 0, cells := 0, slots := 0, locals := 0 } D [.ref a_this, .int p1, .int p2] [(a_this, oX3 a_this_storage a_this_status a_this_channel a_this_registers a_this_first a_this_second o_this), (a_this_registers, .inl (k_this_registers, 16, .inl r_this_registers))] [(k_this_registers, .int)] (fun (u : Nat → Int32) => f_X3_putRegister r_this_registers p1 p2 = u) (fun u => [(a_this, oX3 a_this_storage a_this_status a_this_channel a_this_registers a_this_first a_this_second o_this), (a_this_registers, .inl (k_this_registers, 16, .inl u))]) := by
  refine CtV.of (by decide) (Nat.le_of_ble_eq_true rfl) ?_
  intro p e s m below meth c A ls Q hE hP hD hS hl hQ
  obtain ⟨hx, hb, hml, hown, ht, hN, hK, hA⟩ := hE
  have hown : s.vm.findClass RX3 = some m.cls := hown
  have hl : lv_has ls 3 [(0, .ref a_this), (1, .int p1), (2, .int p2)] := hl
  obtain ⟨F, hF⟩ : ∃ F, f_X3_putRegister r_this_registers p1 p2 = F := ⟨_, rfl⟩
  rw [hF] at hQ
  unfold f_X3_putRegister at hF
  refine lv_aload_n hx hb dX3_putRegister_0 rfl (lv_at hl 0 rfl) ?_
  refine gf_X3_32 (v := .ref a_this_registers) hx hb hown ht hK hP 0 rfl rfl dX3_putRegister_1 ?_
  refine lv_iload_n hx hb dX3_putRegister_4 rfl (lv_at hl 1 rfl) ?_
  refine lv_bipush (v := 15) hx hb dX3_putRegister_5 (by decide) ?_
  refine lv_iand hx hb dX3_putRegister_7 ?_
  refine lv_iload_n hx hb dX3_putRegister_8 rfl (lv_at hl 2 rfl) ?_
  refine va_iast hx hb hK hP hD hS 1 0 rfl rfl (q_in16 _) dX3_putRegister_9 (fun H locs hP hD hS => ?_)
  have hP : va_P D vwCl [(a_this, oX3 a_this_storage a_this_status a_this_channel a_this_registers a_this_first a_this_second o_this), (a_this_registers, .inl (k_this_registers, 16, .inl (upd r_this_registers (p1 &&& (15 : Int32)).toNatClampNeg p2)))] H := hP
  have hD : va_D A [(a_this, oX3 a_this_storage a_this_status a_this_channel a_this_registers a_this_first a_this_second o_this), (a_this_registers, .inl (k_this_registers, 16, .inl (upd r_this_registers (p1 &&& (15 : Int32)).toNatClampNeg p2)))] := hD
  exact hQ (upd r_this_registers (p1 &&& (15 : Int32)).toNatClampNeg p2) _ _ _ _ dX3_putRegister_10 hF.symm hP hD hS
theorem cv_X3_putRegister : qV yX3_putRegister cX3_putRegister 3 none 2 := ⟨kc_X3_putRegister, kt_X3_putRegister, ks_X3_putRegister, kn_X3, by decide, by decide +kernel⟩
def f_X3_interrupt (o_this_status : Int32 × Int32 × Int32 × Int32) (r_this_storage_bytes : Nat → Int32) (p1 : Int32) (p2 : Int32) (p3 : Int32) : (Int32 × Int32 × Int32 × Int32) × (Nat → Int32) := (q_let (f_X5_putTo o_this_status r_this_storage_bytes p1 p3) fun w_1 => (q_let (f_X5_loadFrom w_1 p2) fun w_2 => (w_2, w_1)))
set_option linter.all false in
set_option maxHeartbeats 4000000 in
set_option maxRecDepth 100000 in
theorem c_X3_interrupt (l : Launch) (D : va_G) (a_this a_this_status a_this_storage a_this_storage_bytes a_this_channel a_this_registers a_this_first a_this_second a_this_storage_keys : Nat) (k_this_storage_bytes : ClassId) (o_this : Bool × Int32 × Int32 × Int32 × Int32 × Int32 × Int32 × Int32 × Int32 × Int32) (o_this_status : Int32 × Int32 × Int32 × Int32) (r_this_storage_bytes : Nat → Int32) (p1 : Int32) (p2 : Int32) (p3 : Int32) : CtV l yX3_interrupt cX3_interrupt 4 none { frames := 3, cells := 0, slots := 0, locals := 67 } D [.ref a_this, .int p1, .int p2, .int p3] [(a_this, oX3 a_this_storage a_this_status a_this_channel a_this_registers a_this_first a_this_second o_this), (a_this_status, oX5 o_this_status), (a_this_storage, oX6 a_this_storage_bytes a_this_storage_keys), (a_this_storage_bytes, .inl (k_this_storage_bytes, 2048, .inl r_this_storage_bytes))] [(k_this_storage_bytes, .byte)] (fun (u : (Int32 × Int32 × Int32 × Int32) × (Nat → Int32)) => f_X3_interrupt o_this_status r_this_storage_bytes p1 p2 p3 = u) (fun u => [(a_this, oX3 a_this_storage a_this_status a_this_channel a_this_registers a_this_first a_this_second o_this), (a_this_status, oX5 u.1), (a_this_storage, oX6 a_this_storage_bytes a_this_storage_keys), (a_this_storage_bytes, .inl (k_this_storage_bytes, 2048, .inl u.2))]) := by
  refine CtV.of (by decide) (Nat.le_of_ble_eq_true rfl) ?_
  intro p e s m below meth c A ls Q hE hP hD hS hl hQ
  obtain ⟨hx, hb, hml, hown, ht, hN, hK, hA⟩ := hE
  have hown : s.vm.findClass RX3 = some m.cls := hown
  have hl : lv_has ls 4 [(0, .ref a_this), (1, .int p1), (2, .int p2), (3, .int p3)] := hl
  obtain ⟨F, hF⟩ : ∃ F, f_X3_interrupt o_this_status r_this_storage_bytes p1 p2 p3 = F := ⟨_, rfl⟩
  rw [hF] at hQ
  unfold f_X3_interrupt at hF
  refine lv_aload_n hx hb dX3_interrupt_0 rfl (lv_at hl 0 rfl) ?_
  refine gf_X3_21 (v := .ref a_this_status) hx hb hown ht hK hP 0 rfl rfl dX3_interrupt_1 ?_
  refine lv_aload_n hx hb dX3_interrupt_4 rfl (lv_at hl 0 rfl) ?_
  refine gf_X3_12 (v := .ref a_this_storage) hx hb hown ht hK hP 0 rfl rfl dX3_interrupt_5 ?_
  refine lv_iload_n hx hb dX3_interrupt_8 rfl (lv_at hl 1 rfl) ?_
  refine lv_iload_n hx hb dX3_interrupt_9 rfl (lv_at hl 3 rfl) ?_
  refine q_Vv (rest := []) (c_X5_putTo l D a_this_status a_this_storage a_this_storage_bytes a_this_storage_keys k_this_storage_bytes o_this_status r_this_storage_bytes p1 p3) cv_X5_putTo hx hb hml hown ht hN hK hA hP hD hS hl.1 (km_X3_108) ⟨Nat.le_of_ble_eq_true rfl, Nat.le_of_ble_eq_true rfl⟩ rfl rfl [1, 2, 3] (by decide) rfl [0] rfl (fun _ => rfl) (ci := 5) rfl rfl rfl rfl rfl (Nat.le_of_ble_eq_true rfl) dX3_interrupt_10 ⟨Nat.zero_le _, Nat.zero_le _⟩ (fun w_1 H locs hw hP hD hS => ?_)
  have hP : va_P D vwCl [(a_this, oX3 a_this_storage a_this_status a_this_channel a_this_registers a_this_first a_this_second o_this), (a_this_status, oX5 o_this_status), (a_this_storage, oX6 a_this_storage_bytes a_this_storage_keys), (a_this_storage_bytes, .inl (k_this_storage_bytes, 2048, .inl w_1))] H := hP
  have hD : va_D A [(a_this, oX3 a_this_storage a_this_status a_this_channel a_this_registers a_this_first a_this_second o_this), (a_this_status, oX5 o_this_status), (a_this_storage, oX6 a_this_storage_bytes a_this_storage_keys), (a_this_storage_bytes, .inl (k_this_storage_bytes, 2048, .inl w_1))] := hD
  rw [q_let_of hw] at hF
  refine lv_aload_n hx hb dX3_interrupt_13 rfl (lv_at hl 0 rfl) ?_
  refine gf_X3_21 (v := .ref a_this_status) hx hb hown ht hK hP 0 rfl rfl dX3_interrupt_14 ?_
  refine lv_aload_n hx hb dX3_interrupt_17 rfl (lv_at hl 0 rfl) ?_
  refine gf_X3_12 (v := .ref a_this_storage) hx hb hown ht hK hP 0 rfl rfl dX3_interrupt_18 ?_
  refine lv_iload_n hx hb dX3_interrupt_21 rfl (lv_at hl 2 rfl) ?_
  refine q_Vv (rest := []) (c_X5_loadFrom l D a_this_status a_this_storage a_this_storage_bytes a_this_storage_keys k_this_storage_bytes o_this_status w_1 p2) cv_X5_loadFrom hx hb hml hown ht hN hK hA hP hD hS hl.1 (km_X3_112) ⟨Nat.le_of_ble_eq_true rfl, Nat.le_of_ble_eq_true rfl⟩ rfl rfl [1, 2, 3] (by decide) rfl [0] rfl (fun _ => rfl) (ci := 5) rfl rfl rfl rfl rfl (Nat.le_of_ble_eq_true rfl) dX3_interrupt_22 ⟨Nat.zero_le _, Nat.zero_le _⟩ (fun w_2 H locs hw hP hD hS => ?_)
  have hP : va_P D vwCl [(a_this, oX3 a_this_storage a_this_status a_this_channel a_this_registers a_this_first a_this_second o_this), (a_this_status, oX5 w_2), (a_this_storage, oX6 a_this_storage_bytes a_this_storage_keys), (a_this_storage_bytes, .inl (k_this_storage_bytes, 2048, .inl w_1))] H := hP
  have hD : va_D A [(a_this, oX3 a_this_storage a_this_status a_this_channel a_this_registers a_this_first a_this_second o_this), (a_this_status, oX5 w_2), (a_this_storage, oX6 a_this_storage_bytes a_this_storage_keys), (a_this_storage_bytes, .inl (k_this_storage_bytes, 2048, .inl w_1))] := hD
  rw [q_let_of hw] at hF
  exact hQ (w_2, w_1) _ _ _ _ dX3_interrupt_25 hF.symm hP hD hS
theorem cv_X3_interrupt : qV yX3_interrupt cX3_interrupt 4 none 3 := ⟨kc_X3_interrupt, kt_X3_interrupt, ks_X3_interrupt, kn_X3, by decide, by decide +kernel⟩
def f_X3_takeInterruption (o_this : Bool × Int32 × Int32 × Int32 × Int32 × Int32 × Int32 × Int32 × Int32 × Int32) (o_this_channel : Bool × Bool × Int32 × Int32 × Int32 × Bool × Bool × Bool × Int32 × Int32 × Int32 × Int32 × Int32) (o_this_status : Int32 × Int32 × Int32 × Int32) (r_this_storage_bytes : Nat → Int32) : Bool × (Bool × Int32 × Int32 × Int32 × Int32 × Int32 × Int32 × Int32 × Int32 × Int32) × (Bool × Bool × Int32 × Int32 × Int32 × Bool × Bool × Bool × Int32 × Int32 × Int32 × Int32 × Int32) × (Int32 × Int32 × Int32 × Int32) × (Nat → Int32) := (if o_this.1 = true then (if (f_X5_allows o_this_status 1) = true then (q_let (f_X3_interrupt o_this_status r_this_storage_bytes 24 88 128) fun w_12 => (true, (false, o_this.2.1, o_this.2.2.1, o_this.2.2.2.1, o_this.2.2.2.2.1, o_this.2.2.2.2.2.1, o_this.2.2.2.2.2.2.1, o_this.2.2.2.2.2.2.2.1, o_this.2.2.2.2.2.2.2.2.1, o_this.2.2.2.2.2.2.2.2.2), o_this_channel, w_12.1, w_12.2)) else (if o_this_channel.2.1 = true then (if (f_X5_allows o_this_status 2) = true then (q_let (f_X3_interrupt o_this_status r_this_storage_bytes 56 120 o_this_channel.2.2.1) fun w_11 => (true, o_this, (o_this_channel.1, false, o_this_channel.2.2.1, o_this_channel.2.2.2.1, o_this_channel.2.2.2.2.1, o_this_channel.2.2.2.2.2.1, o_this_channel.2.2.2.2.2.2.1, o_this_channel.2.2.2.2.2.2.2.1, o_this_channel.2.2.2.2.2.2.2.2.1, o_this_channel.2.2.2.2.2.2.2.2.2.1, o_this_channel.2.2.2.2.2.2.2.2.2.2.1, o_this_channel.2.2.2.2.2.2.2.2.2.2.2.1, o_this_channel.2.2.2.2.2.2.2.2.2.2.2.2), w_11.1, w_11.2)) else (false, o_this, o_this_channel, o_this_status, r_this_storage_bytes)) else (false, o_this, o_this_channel, o_this_status, r_this_storage_bytes))) else (if o_this_channel.2.1 = true then (if (f_X5_allows o_this_status 2) = true then (q_let (f_X3_interrupt o_this_status r_this_storage_bytes 56 120 o_this_channel.2.2.1) fun w_5 => (true, o_this, (o_this_channel.1, false, o_this_channel.2.2.1, o_this_channel.2.2.2.1, o_this_channel.2.2.2.2.1, o_this_channel.2.2.2.2.2.1, o_this_channel.2.2.2.2.2.2.1, o_this_channel.2.2.2.2.2.2.2.1, o_this_channel.2.2.2.2.2.2.2.2.1, o_this_channel.2.2.2.2.2.2.2.2.2.1, o_this_channel.2.2.2.2.2.2.2.2.2.2.1, o_this_channel.2.2.2.2.2.2.2.2.2.2.2.1, o_this_channel.2.2.2.2.2.2.2.2.2.2.2.2), w_5.1, w_5.2)) else (false, o_this, o_this_channel, o_this_status, r_this_storage_bytes)) else (false, o_this, o_this_channel, o_this_status, r_this_storage_bytes)))
set_option linter.all false in
set_option maxHeartbeats 4000000 in
set_option maxRecDepth 100000 in
theorem c_X3_takeInterruption (l : Launch) (D : va_G) (a_this a_this_channel a_this_status a_this_storage a_this_storage_bytes a_this_registers a_this_first a_this_second a_this_channel_reader a_this_channel_printer a_this_storage_keys : Nat) (k_this_storage_bytes : ClassId) (o_this : Bool × Int32 × Int32 × Int32 × Int32 × Int32 × Int32 × Int32 × Int32 × Int32) (o_this_channel : Bool × Bool × Int32 × Int32 × Int32 × Bool × Bool × Bool × Int32 × Int32 × Int32 × Int32 × Int32) (o_this_status : Int32 × Int32 × Int32 × Int32) (r_this_storage_bytes : Nat → Int32) : CtI l yX3_takeInterruption cX3_takeInterruption 1 (some .boolean) { frames := 4, cells := 0, slots := 0, locals := 90 } D [.ref a_this] [(a_this, oX3 a_this_storage a_this_status a_this_channel a_this_registers a_this_first a_this_second o_this), (a_this_channel, oX0 a_this_channel_reader a_this_channel_printer o_this_channel), (a_this_status, oX5 o_this_status), (a_this_storage, oX6 a_this_storage_bytes a_this_storage_keys), (a_this_storage_bytes, .inl (k_this_storage_bytes, 2048, .inl r_this_storage_bytes))] [(k_this_storage_bytes, .byte)] (fun (r : Int32) (u : Bool × (Bool × Int32 × Int32 × Int32 × Int32 × Int32 × Int32 × Int32 × Int32 × Int32) × (Bool × Bool × Int32 × Int32 × Int32 × Bool × Bool × Bool × Int32 × Int32 × Int32 × Int32 × Int32) × (Int32 × Int32 × Int32 × Int32) × (Nat → Int32)) => f_X3_takeInterruption o_this o_this_channel o_this_status r_this_storage_bytes = u ∧ r = bI u.1) (fun u => [(a_this, oX3 a_this_storage a_this_status a_this_channel a_this_registers a_this_first a_this_second u.2.1), (a_this_channel, oX0 a_this_channel_reader a_this_channel_printer u.2.2.1), (a_this_status, oX5 u.2.2.2.1), (a_this_storage, oX6 a_this_storage_bytes a_this_storage_keys), (a_this_storage_bytes, .inl (k_this_storage_bytes, 2048, .inl u.2.2.2.2))]) := by
  refine CtI.ofZ (by decide) (Nat.le_of_ble_eq_true rfl) ?_
  intro p e s m below meth c A ls Q hE hP hD hS hl hQ
  obtain ⟨hx, hb, hml, hown, ht, hN, hK, hA⟩ := hE
  have hown : s.vm.findClass RX3 = some m.cls := hown
  have hl : lv_has ls 1 [(0, .ref a_this)] := hl
  obtain ⟨F, hF⟩ : ∃ F, f_X3_takeInterruption o_this o_this_channel o_this_status r_this_storage_bytes = F := ⟨_, rfl⟩
  rw [hF] at hQ
  unfold f_X3_takeInterruption at hF
  refine lv_aload_n hx hb dX3_takeInterruption_0 rfl (lv_at hl 0 rfl) ?_
  refine gf_X3_86 (v := .int (bI o_this.1)) hx hb hown ht hK hP 0 rfl rfl dX3_takeInterruption_1 ?_
  refine lv_if_eq (tgt := 36) hx hb dX3_takeInterruption_4 (by decide) (fun c_1 => ?_) (fun c_1 => ?_)
  · have c_1 : ¬ o_this.1 = true := by rw [(bI_eq0 _).mp c_1]; decide
    rw [if_neg c_1] at hF
    refine lv_aload_n hx hb dX3_takeInterruption_36 rfl (lv_at hl 0 rfl) ?_
    refine gf_X3_28 (v := .ref a_this_channel) hx hb hown ht hK hP 0 rfl rfl dX3_takeInterruption_37 ?_
    refine gf_X3_94 (v := .int (bI o_this_channel.2.1)) hx hb hown ht hK hP 1 rfl rfl dX3_takeInterruption_40 ?_
    refine lv_if_eq (tgt := 82) hx hb dX3_takeInterruption_43 (by decide) (fun c_2 => ?_) (fun c_2 => ?_)
    · have c_2 : ¬ o_this_channel.2.1 = true := by rw [(bI_eq0 _).mp c_2]; decide
      rw [if_neg c_2] at hF
      refine lv_iconst (v := 0) hx hb dX3_takeInterruption_82 (by decide) ?_
      exact hQ false (false, o_this, o_this_channel, o_this_status, r_this_storage_bytes) _ _ _ _ dX3_takeInterruption_83 ⟨hF.symm, rfl⟩ hP hD hS
    · have c_2 := (bI_ne0 _).mp c_2
      rw [if_pos c_2] at hF
      refine lv_aload_n hx hb dX3_takeInterruption_46 rfl (lv_at hl 0 rfl) ?_
      refine gf_X3_21 (v := .ref a_this_status) hx hb hown ht hK hP 0 rfl rfl dX3_takeInterruption_47 ?_
      refine lv_iconst (v := 2) hx hb dX3_takeInterruption_50 (by decide) ?_
      refine q_Vi (rest := []) (c_X5_allows l D a_this_status o_this_status 2) cv_X5_allows hx hb hml hown ht hN hK hA hP hD hS hl.1 (km_X3_90) ⟨Nat.le_of_ble_eq_true rfl, Nat.le_of_ble_eq_true rfl⟩ rfl rfl [2] (by decide) rfl [] rfl (fun _ => rfl) (ci := 5) rfl rfl rfl rfl rfl (Nat.le_of_ble_eq_true rfl) dX3_takeInterruption_51 ⟨Nat.zero_le _, Nat.zero_le _⟩ (fun r u H locs hw hP hD hS => ?_)
      obtain ⟨rfl, rfl⟩ := hw
      have hP : va_P D vwCl [(a_this, oX3 a_this_storage a_this_status a_this_channel a_this_registers a_this_first a_this_second o_this), (a_this_channel, oX0 a_this_channel_reader a_this_channel_printer o_this_channel), (a_this_status, oX5 o_this_status), (a_this_storage, oX6 a_this_storage_bytes a_this_storage_keys), (a_this_storage_bytes, .inl (k_this_storage_bytes, 2048, .inl r_this_storage_bytes))] H := hP
      have hD : va_D A [(a_this, oX3 a_this_storage a_this_status a_this_channel a_this_registers a_this_first a_this_second o_this), (a_this_channel, oX0 a_this_channel_reader a_this_channel_printer o_this_channel), (a_this_status, oX5 o_this_status), (a_this_storage, oX6 a_this_storage_bytes a_this_storage_keys), (a_this_storage_bytes, .inl (k_this_storage_bytes, 2048, .inl r_this_storage_bytes))] := hD
      refine lv_if_eq (tgt := 82) hx hb dX3_takeInterruption_54 (by decide) (fun c_4 => ?_) (fun c_4 => ?_)
      · have c_4 : ¬ (f_X5_allows o_this_status 2) = true := by rw [(bI_eq0 _).mp c_4]; decide
        rw [if_neg c_4] at hF
        refine lv_iconst (v := 0) hx hb dX3_takeInterruption_82 (by decide) ?_
        exact hQ false (false, o_this, o_this_channel, o_this_status, r_this_storage_bytes) _ _ _ _ dX3_takeInterruption_83 ⟨hF.symm, rfl⟩ hP hD hS
      · have c_4 := (bI_ne0 _).mp c_4
        rw [if_pos c_4] at hF
        refine lv_aload_n hx hb dX3_takeInterruption_57 rfl (lv_at hl 0 rfl) ?_
        refine gf_X3_28 (v := .ref a_this_channel) hx hb hown ht hK hP 0 rfl rfl dX3_takeInterruption_58 ?_
        refine lv_iconst (v := 0) hx hb dX3_takeInterruption_61 (by decide) ?_
        refine pf_X3_94 (x := false) hx hb hown ht hK hP hD hS 1 rfl (Nat.le_of_ble_eq_true rfl) dX3_takeInterruption_62 (fun H locs hP hD hS => ?_)
        have hP : va_P D vwCl [(a_this, oX3 a_this_storage a_this_status a_this_channel a_this_registers a_this_first a_this_second o_this), (a_this_channel, oX0 a_this_channel_reader a_this_channel_printer (o_this_channel.1, false, o_this_channel.2.2.1, o_this_channel.2.2.2.1, o_this_channel.2.2.2.2.1, o_this_channel.2.2.2.2.2.1, o_this_channel.2.2.2.2.2.2.1, o_this_channel.2.2.2.2.2.2.2.1, o_this_channel.2.2.2.2.2.2.2.2.1, o_this_channel.2.2.2.2.2.2.2.2.2.1, o_this_channel.2.2.2.2.2.2.2.2.2.2.1, o_this_channel.2.2.2.2.2.2.2.2.2.2.2.1, o_this_channel.2.2.2.2.2.2.2.2.2.2.2.2)), (a_this_status, oX5 o_this_status), (a_this_storage, oX6 a_this_storage_bytes a_this_storage_keys), (a_this_storage_bytes, .inl (k_this_storage_bytes, 2048, .inl r_this_storage_bytes))] H := hP
        have hD : va_D A [(a_this, oX3 a_this_storage a_this_status a_this_channel a_this_registers a_this_first a_this_second o_this), (a_this_channel, oX0 a_this_channel_reader a_this_channel_printer (o_this_channel.1, false, o_this_channel.2.2.1, o_this_channel.2.2.2.1, o_this_channel.2.2.2.2.1, o_this_channel.2.2.2.2.2.1, o_this_channel.2.2.2.2.2.2.1, o_this_channel.2.2.2.2.2.2.2.1, o_this_channel.2.2.2.2.2.2.2.2.1, o_this_channel.2.2.2.2.2.2.2.2.2.1, o_this_channel.2.2.2.2.2.2.2.2.2.2.1, o_this_channel.2.2.2.2.2.2.2.2.2.2.2.1, o_this_channel.2.2.2.2.2.2.2.2.2.2.2.2)), (a_this_status, oX5 o_this_status), (a_this_storage, oX6 a_this_storage_bytes a_this_storage_keys), (a_this_storage_bytes, .inl (k_this_storage_bytes, 2048, .inl r_this_storage_bytes))] := hD
        refine lv_aload_n hx hb dX3_takeInterruption_65 rfl (lv_at hl 0 rfl) ?_
        refine lv_bipush (v := 56) hx hb dX3_takeInterruption_66 (by decide) ?_
        refine lv_bipush (v := 120) hx hb dX3_takeInterruption_68 (by decide) ?_
        refine lv_aload_n hx hb dX3_takeInterruption_70 rfl (lv_at hl 0 rfl) ?_
        refine gf_X3_28 (v := .ref a_this_channel) hx hb hown ht hK hP 0 rfl rfl dX3_takeInterruption_71 ?_
        refine gf_X3_97 (v := .int o_this_channel.2.2.1) hx hb hown ht hK hP 1 rfl rfl dX3_takeInterruption_74 ?_
        refine q_Vv (rest := []) (c_X3_interrupt l D a_this a_this_status a_this_storage a_this_storage_bytes a_this_channel a_this_registers a_this_first a_this_second a_this_storage_keys k_this_storage_bytes o_this o_this_status r_this_storage_bytes 56 120 o_this_channel.2.2.1) cv_X3_interrupt hx hb hml hown ht hN hK hA hP hD hS hl.1 (km_X3_82) ⟨Nat.le_of_ble_eq_true rfl, Nat.le_of_ble_eq_true rfl⟩ rfl rfl [0, 2, 3, 4] (by decide) rfl [0] rfl (fun _ => rfl) (ci := 3) rfl rfl rfl rfl rfl (Nat.le_of_ble_eq_true rfl) dX3_takeInterruption_77 ⟨Nat.zero_le _, Nat.zero_le _⟩ (fun w_5 H locs hw hP hD hS => ?_)
        have hP : va_P D vwCl [(a_this, oX3 a_this_storage a_this_status a_this_channel a_this_registers a_this_first a_this_second o_this), (a_this_channel, oX0 a_this_channel_reader a_this_channel_printer (o_this_channel.1, false, o_this_channel.2.2.1, o_this_channel.2.2.2.1, o_this_channel.2.2.2.2.1, o_this_channel.2.2.2.2.2.1, o_this_channel.2.2.2.2.2.2.1, o_this_channel.2.2.2.2.2.2.2.1, o_this_channel.2.2.2.2.2.2.2.2.1, o_this_channel.2.2.2.2.2.2.2.2.2.1, o_this_channel.2.2.2.2.2.2.2.2.2.2.1, o_this_channel.2.2.2.2.2.2.2.2.2.2.2.1, o_this_channel.2.2.2.2.2.2.2.2.2.2.2.2)), (a_this_status, oX5 w_5.1), (a_this_storage, oX6 a_this_storage_bytes a_this_storage_keys), (a_this_storage_bytes, .inl (k_this_storage_bytes, 2048, .inl w_5.2))] H := hP
        have hD : va_D A [(a_this, oX3 a_this_storage a_this_status a_this_channel a_this_registers a_this_first a_this_second o_this), (a_this_channel, oX0 a_this_channel_reader a_this_channel_printer (o_this_channel.1, false, o_this_channel.2.2.1, o_this_channel.2.2.2.1, o_this_channel.2.2.2.2.1, o_this_channel.2.2.2.2.2.1, o_this_channel.2.2.2.2.2.2.1, o_this_channel.2.2.2.2.2.2.2.1, o_this_channel.2.2.2.2.2.2.2.2.1, o_this_channel.2.2.2.2.2.2.2.2.2.1, o_this_channel.2.2.2.2.2.2.2.2.2.2.1, o_this_channel.2.2.2.2.2.2.2.2.2.2.2.1, o_this_channel.2.2.2.2.2.2.2.2.2.2.2.2)), (a_this_status, oX5 w_5.1), (a_this_storage, oX6 a_this_storage_bytes a_this_storage_keys), (a_this_storage_bytes, .inl (k_this_storage_bytes, 2048, .inl w_5.2))] := hD
        rw [q_let_of hw] at hF
        refine lv_iconst (v := 1) hx hb dX3_takeInterruption_80 (by decide) ?_
        exact hQ true (true, o_this, (o_this_channel.1, false, o_this_channel.2.2.1, o_this_channel.2.2.2.1, o_this_channel.2.2.2.2.1, o_this_channel.2.2.2.2.2.1, o_this_channel.2.2.2.2.2.2.1, o_this_channel.2.2.2.2.2.2.2.1, o_this_channel.2.2.2.2.2.2.2.2.1, o_this_channel.2.2.2.2.2.2.2.2.2.1, o_this_channel.2.2.2.2.2.2.2.2.2.2.1, o_this_channel.2.2.2.2.2.2.2.2.2.2.2.1, o_this_channel.2.2.2.2.2.2.2.2.2.2.2.2), w_5.1, w_5.2) _ _ _ _ dX3_takeInterruption_81 ⟨hF.symm, rfl⟩ hP hD hS
  · have c_1 := (bI_ne0 _).mp c_1
    rw [if_pos c_1] at hF
    refine lv_aload_n hx hb dX3_takeInterruption_7 rfl (lv_at hl 0 rfl) ?_
    refine gf_X3_21 (v := .ref a_this_status) hx hb hown ht hK hP 0 rfl rfl dX3_takeInterruption_8 ?_
    refine lv_iconst (v := 1) hx hb dX3_takeInterruption_11 (by decide) ?_
    refine q_Vi (rest := []) (c_X5_allows l D a_this_status o_this_status 1) cv_X5_allows hx hb hml hown ht hN hK hA hP hD hS hl.1 (km_X3_90) ⟨Nat.le_of_ble_eq_true rfl, Nat.le_of_ble_eq_true rfl⟩ rfl rfl [2] (by decide) rfl [] rfl (fun _ => rfl) (ci := 5) rfl rfl rfl rfl rfl (Nat.le_of_ble_eq_true rfl) dX3_takeInterruption_12 ⟨Nat.zero_le _, Nat.zero_le _⟩ (fun r u H locs hw hP hD hS => ?_)
    obtain ⟨rfl, rfl⟩ := hw
    have hP : va_P D vwCl [(a_this, oX3 a_this_storage a_this_status a_this_channel a_this_registers a_this_first a_this_second o_this), (a_this_channel, oX0 a_this_channel_reader a_this_channel_printer o_this_channel), (a_this_status, oX5 o_this_status), (a_this_storage, oX6 a_this_storage_bytes a_this_storage_keys), (a_this_storage_bytes, .inl (k_this_storage_bytes, 2048, .inl r_this_storage_bytes))] H := hP
    have hD : va_D A [(a_this, oX3 a_this_storage a_this_status a_this_channel a_this_registers a_this_first a_this_second o_this), (a_this_channel, oX0 a_this_channel_reader a_this_channel_printer o_this_channel), (a_this_status, oX5 o_this_status), (a_this_storage, oX6 a_this_storage_bytes a_this_storage_keys), (a_this_storage_bytes, .inl (k_this_storage_bytes, 2048, .inl r_this_storage_bytes))] := hD
    refine lv_if_eq (tgt := 36) hx hb dX3_takeInterruption_15 (by decide) (fun c_7 => ?_) (fun c_7 => ?_)
    · have c_7 : ¬ (f_X5_allows o_this_status 1) = true := by rw [(bI_eq0 _).mp c_7]; decide
      rw [if_neg c_7] at hF
      refine lv_aload_n hx hb dX3_takeInterruption_36 rfl (lv_at hl 0 rfl) ?_
      refine gf_X3_28 (v := .ref a_this_channel) hx hb hown ht hK hP 0 rfl rfl dX3_takeInterruption_37 ?_
      refine gf_X3_94 (v := .int (bI o_this_channel.2.1)) hx hb hown ht hK hP 1 rfl rfl dX3_takeInterruption_40 ?_
      refine lv_if_eq (tgt := 82) hx hb dX3_takeInterruption_43 (by decide) (fun c_8 => ?_) (fun c_8 => ?_)
      · have c_8 : ¬ o_this_channel.2.1 = true := by rw [(bI_eq0 _).mp c_8]; decide
        rw [if_neg c_8] at hF
        refine lv_iconst (v := 0) hx hb dX3_takeInterruption_82 (by decide) ?_
        exact hQ false (false, o_this, o_this_channel, o_this_status, r_this_storage_bytes) _ _ _ _ dX3_takeInterruption_83 ⟨hF.symm, rfl⟩ hP hD hS
      · have c_8 := (bI_ne0 _).mp c_8
        rw [if_pos c_8] at hF
        refine lv_aload_n hx hb dX3_takeInterruption_46 rfl (lv_at hl 0 rfl) ?_
        refine gf_X3_21 (v := .ref a_this_status) hx hb hown ht hK hP 0 rfl rfl dX3_takeInterruption_47 ?_
        refine lv_iconst (v := 2) hx hb dX3_takeInterruption_50 (by decide) ?_
        refine q_Vi (rest := []) (c_X5_allows l D a_this_status o_this_status 2) cv_X5_allows hx hb hml hown ht hN hK hA hP hD hS hl.1 (km_X3_90) ⟨Nat.le_of_ble_eq_true rfl, Nat.le_of_ble_eq_true rfl⟩ rfl rfl [2] (by decide) rfl [] rfl (fun _ => rfl) (ci := 5) rfl rfl rfl rfl rfl (Nat.le_of_ble_eq_true rfl) dX3_takeInterruption_51 ⟨Nat.zero_le _, Nat.zero_le _⟩ (fun r u H locs hw hP hD hS => ?_)
        obtain ⟨rfl, rfl⟩ := hw
        have hP : va_P D vwCl [(a_this, oX3 a_this_storage a_this_status a_this_channel a_this_registers a_this_first a_this_second o_this), (a_this_channel, oX0 a_this_channel_reader a_this_channel_printer o_this_channel), (a_this_status, oX5 o_this_status), (a_this_storage, oX6 a_this_storage_bytes a_this_storage_keys), (a_this_storage_bytes, .inl (k_this_storage_bytes, 2048, .inl r_this_storage_bytes))] H := hP
        have hD : va_D A [(a_this, oX3 a_this_storage a_this_status a_this_channel a_this_registers a_this_first a_this_second o_this), (a_this_channel, oX0 a_this_channel_reader a_this_channel_printer o_this_channel), (a_this_status, oX5 o_this_status), (a_this_storage, oX6 a_this_storage_bytes a_this_storage_keys), (a_this_storage_bytes, .inl (k_this_storage_bytes, 2048, .inl r_this_storage_bytes))] := hD
        refine lv_if_eq (tgt := 82) hx hb dX3_takeInterruption_54 (by decide) (fun c_10 => ?_) (fun c_10 => ?_)
        · have c_10 : ¬ (f_X5_allows o_this_status 2) = true := by rw [(bI_eq0 _).mp c_10]; decide
          rw [if_neg c_10] at hF
          refine lv_iconst (v := 0) hx hb dX3_takeInterruption_82 (by decide) ?_
          exact hQ false (false, o_this, o_this_channel, o_this_status, r_this_storage_bytes) _ _ _ _ dX3_takeInterruption_83 ⟨hF.symm, rfl⟩ hP hD hS
        · have c_10 := (bI_ne0 _).mp c_10
          rw [if_pos c_10] at hF
          refine lv_aload_n hx hb dX3_takeInterruption_57 rfl (lv_at hl 0 rfl) ?_
          refine gf_X3_28 (v := .ref a_this_channel) hx hb hown ht hK hP 0 rfl rfl dX3_takeInterruption_58 ?_
          refine lv_iconst (v := 0) hx hb dX3_takeInterruption_61 (by decide) ?_
          refine pf_X3_94 (x := false) hx hb hown ht hK hP hD hS 1 rfl (Nat.le_of_ble_eq_true rfl) dX3_takeInterruption_62 (fun H locs hP hD hS => ?_)
          have hP : va_P D vwCl [(a_this, oX3 a_this_storage a_this_status a_this_channel a_this_registers a_this_first a_this_second o_this), (a_this_channel, oX0 a_this_channel_reader a_this_channel_printer (o_this_channel.1, false, o_this_channel.2.2.1, o_this_channel.2.2.2.1, o_this_channel.2.2.2.2.1, o_this_channel.2.2.2.2.2.1, o_this_channel.2.2.2.2.2.2.1, o_this_channel.2.2.2.2.2.2.2.1, o_this_channel.2.2.2.2.2.2.2.2.1, o_this_channel.2.2.2.2.2.2.2.2.2.1, o_this_channel.2.2.2.2.2.2.2.2.2.2.1, o_this_channel.2.2.2.2.2.2.2.2.2.2.2.1, o_this_channel.2.2.2.2.2.2.2.2.2.2.2.2)), (a_this_status, oX5 o_this_status), (a_this_storage, oX6 a_this_storage_bytes a_this_storage_keys), (a_this_storage_bytes, .inl (k_this_storage_bytes, 2048, .inl r_this_storage_bytes))] H := hP
          have hD : va_D A [(a_this, oX3 a_this_storage a_this_status a_this_channel a_this_registers a_this_first a_this_second o_this), (a_this_channel, oX0 a_this_channel_reader a_this_channel_printer (o_this_channel.1, false, o_this_channel.2.2.1, o_this_channel.2.2.2.1, o_this_channel.2.2.2.2.1, o_this_channel.2.2.2.2.2.1, o_this_channel.2.2.2.2.2.2.1, o_this_channel.2.2.2.2.2.2.2.1, o_this_channel.2.2.2.2.2.2.2.2.1, o_this_channel.2.2.2.2.2.2.2.2.2.1, o_this_channel.2.2.2.2.2.2.2.2.2.2.1, o_this_channel.2.2.2.2.2.2.2.2.2.2.2.1, o_this_channel.2.2.2.2.2.2.2.2.2.2.2.2)), (a_this_status, oX5 o_this_status), (a_this_storage, oX6 a_this_storage_bytes a_this_storage_keys), (a_this_storage_bytes, .inl (k_this_storage_bytes, 2048, .inl r_this_storage_bytes))] := hD
          refine lv_aload_n hx hb dX3_takeInterruption_65 rfl (lv_at hl 0 rfl) ?_
          refine lv_bipush (v := 56) hx hb dX3_takeInterruption_66 (by decide) ?_
          refine lv_bipush (v := 120) hx hb dX3_takeInterruption_68 (by decide) ?_
          refine lv_aload_n hx hb dX3_takeInterruption_70 rfl (lv_at hl 0 rfl) ?_
          refine gf_X3_28 (v := .ref a_this_channel) hx hb hown ht hK hP 0 rfl rfl dX3_takeInterruption_71 ?_
          refine gf_X3_97 (v := .int o_this_channel.2.2.1) hx hb hown ht hK hP 1 rfl rfl dX3_takeInterruption_74 ?_
          refine q_Vv (rest := []) (c_X3_interrupt l D a_this a_this_status a_this_storage a_this_storage_bytes a_this_channel a_this_registers a_this_first a_this_second a_this_storage_keys k_this_storage_bytes o_this o_this_status r_this_storage_bytes 56 120 o_this_channel.2.2.1) cv_X3_interrupt hx hb hml hown ht hN hK hA hP hD hS hl.1 (km_X3_82) ⟨Nat.le_of_ble_eq_true rfl, Nat.le_of_ble_eq_true rfl⟩ rfl rfl [0, 2, 3, 4] (by decide) rfl [0] rfl (fun _ => rfl) (ci := 3) rfl rfl rfl rfl rfl (Nat.le_of_ble_eq_true rfl) dX3_takeInterruption_77 ⟨Nat.zero_le _, Nat.zero_le _⟩ (fun w_11 H locs hw hP hD hS => ?_)
          have hP : va_P D vwCl [(a_this, oX3 a_this_storage a_this_status a_this_channel a_this_registers a_this_first a_this_second o_this), (a_this_channel, oX0 a_this_channel_reader a_this_channel_printer (o_this_channel.1, false, o_this_channel.2.2.1, o_this_channel.2.2.2.1, o_this_channel.2.2.2.2.1, o_this_channel.2.2.2.2.2.1, o_this_channel.2.2.2.2.2.2.1, o_this_channel.2.2.2.2.2.2.2.1, o_this_channel.2.2.2.2.2.2.2.2.1, o_this_channel.2.2.2.2.2.2.2.2.2.1, o_this_channel.2.2.2.2.2.2.2.2.2.2.1, o_this_channel.2.2.2.2.2.2.2.2.2.2.2.1, o_this_channel.2.2.2.2.2.2.2.2.2.2.2.2)), (a_this_status, oX5 w_11.1), (a_this_storage, oX6 a_this_storage_bytes a_this_storage_keys), (a_this_storage_bytes, .inl (k_this_storage_bytes, 2048, .inl w_11.2))] H := hP
          have hD : va_D A [(a_this, oX3 a_this_storage a_this_status a_this_channel a_this_registers a_this_first a_this_second o_this), (a_this_channel, oX0 a_this_channel_reader a_this_channel_printer (o_this_channel.1, false, o_this_channel.2.2.1, o_this_channel.2.2.2.1, o_this_channel.2.2.2.2.1, o_this_channel.2.2.2.2.2.1, o_this_channel.2.2.2.2.2.2.1, o_this_channel.2.2.2.2.2.2.2.1, o_this_channel.2.2.2.2.2.2.2.2.1, o_this_channel.2.2.2.2.2.2.2.2.2.1, o_this_channel.2.2.2.2.2.2.2.2.2.2.1, o_this_channel.2.2.2.2.2.2.2.2.2.2.2.1, o_this_channel.2.2.2.2.2.2.2.2.2.2.2.2)), (a_this_status, oX5 w_11.1), (a_this_storage, oX6 a_this_storage_bytes a_this_storage_keys), (a_this_storage_bytes, .inl (k_this_storage_bytes, 2048, .inl w_11.2))] := hD
          rw [q_let_of hw] at hF
          refine lv_iconst (v := 1) hx hb dX3_takeInterruption_80 (by decide) ?_
          exact hQ true (true, o_this, (o_this_channel.1, false, o_this_channel.2.2.1, o_this_channel.2.2.2.1, o_this_channel.2.2.2.2.1, o_this_channel.2.2.2.2.2.1, o_this_channel.2.2.2.2.2.2.1, o_this_channel.2.2.2.2.2.2.2.1, o_this_channel.2.2.2.2.2.2.2.2.1, o_this_channel.2.2.2.2.2.2.2.2.2.1, o_this_channel.2.2.2.2.2.2.2.2.2.2.1, o_this_channel.2.2.2.2.2.2.2.2.2.2.2.1, o_this_channel.2.2.2.2.2.2.2.2.2.2.2.2), w_11.1, w_11.2) _ _ _ _ dX3_takeInterruption_81 ⟨hF.symm, rfl⟩ hP hD hS
    · have c_7 := (bI_ne0 _).mp c_7
      rw [if_pos c_7] at hF
      refine lv_aload_n hx hb dX3_takeInterruption_18 rfl (lv_at hl 0 rfl) ?_
      refine lv_iconst (v := 0) hx hb dX3_takeInterruption_19 (by decide) ?_
      refine pf_X3_86 (x := false) hx hb hown ht hK hP hD hS 0 rfl (Nat.le_of_ble_eq_true rfl) dX3_takeInterruption_20 (fun H locs hP hD hS => ?_)
      have hP : va_P D vwCl [(a_this, oX3 a_this_storage a_this_status a_this_channel a_this_registers a_this_first a_this_second (false, o_this.2.1, o_this.2.2.1, o_this.2.2.2.1, o_this.2.2.2.2.1, o_this.2.2.2.2.2.1, o_this.2.2.2.2.2.2.1, o_this.2.2.2.2.2.2.2.1, o_this.2.2.2.2.2.2.2.2.1, o_this.2.2.2.2.2.2.2.2.2)), (a_this_channel, oX0 a_this_channel_reader a_this_channel_printer o_this_channel), (a_this_status, oX5 o_this_status), (a_this_storage, oX6 a_this_storage_bytes a_this_storage_keys), (a_this_storage_bytes, .inl (k_this_storage_bytes, 2048, .inl r_this_storage_bytes))] H := hP
      have hD : va_D A [(a_this, oX3 a_this_storage a_this_status a_this_channel a_this_registers a_this_first a_this_second (false, o_this.2.1, o_this.2.2.1, o_this.2.2.2.1, o_this.2.2.2.2.1, o_this.2.2.2.2.2.1, o_this.2.2.2.2.2.2.1, o_this.2.2.2.2.2.2.2.1, o_this.2.2.2.2.2.2.2.2.1, o_this.2.2.2.2.2.2.2.2.2)), (a_this_channel, oX0 a_this_channel_reader a_this_channel_printer o_this_channel), (a_this_status, oX5 o_this_status), (a_this_storage, oX6 a_this_storage_bytes a_this_storage_keys), (a_this_storage_bytes, .inl (k_this_storage_bytes, 2048, .inl r_this_storage_bytes))] := hD
      refine lv_aload_n hx hb dX3_takeInterruption_23 rfl (lv_at hl 0 rfl) ?_
      refine lv_bipush (v := 24) hx hb dX3_takeInterruption_24 (by decide) ?_
      refine lv_bipush (v := 88) hx hb dX3_takeInterruption_26 (by decide) ?_
      refine lv_sipush (v := 128) hx hb dX3_takeInterruption_28 (by decide) ?_
      refine q_Vv (rest := []) (c_X3_interrupt l D a_this a_this_status a_this_storage a_this_storage_bytes a_this_channel a_this_registers a_this_first a_this_second a_this_storage_keys k_this_storage_bytes (false, o_this.2.1, o_this.2.2.1, o_this.2.2.2.1, o_this.2.2.2.2.1, o_this.2.2.2.2.2.1, o_this.2.2.2.2.2.2.1, o_this.2.2.2.2.2.2.2.1, o_this.2.2.2.2.2.2.2.2.1, o_this.2.2.2.2.2.2.2.2.2) o_this_status r_this_storage_bytes 24 88 128) cv_X3_interrupt hx hb hml hown ht hN hK hA hP hD hS hl.1 (km_X3_82) ⟨Nat.le_of_ble_eq_true rfl, Nat.le_of_ble_eq_true rfl⟩ rfl rfl [0, 2, 3, 4] (by decide) rfl [0] rfl (fun _ => rfl) (ci := 3) rfl rfl rfl rfl rfl (Nat.le_of_ble_eq_true rfl) dX3_takeInterruption_31 ⟨Nat.zero_le _, Nat.zero_le _⟩ (fun w_12 H locs hw hP hD hS => ?_)
      have hP : va_P D vwCl [(a_this, oX3 a_this_storage a_this_status a_this_channel a_this_registers a_this_first a_this_second (false, o_this.2.1, o_this.2.2.1, o_this.2.2.2.1, o_this.2.2.2.2.1, o_this.2.2.2.2.2.1, o_this.2.2.2.2.2.2.1, o_this.2.2.2.2.2.2.2.1, o_this.2.2.2.2.2.2.2.2.1, o_this.2.2.2.2.2.2.2.2.2)), (a_this_channel, oX0 a_this_channel_reader a_this_channel_printer o_this_channel), (a_this_status, oX5 w_12.1), (a_this_storage, oX6 a_this_storage_bytes a_this_storage_keys), (a_this_storage_bytes, .inl (k_this_storage_bytes, 2048, .inl w_12.2))] H := hP
      have hD : va_D A [(a_this, oX3 a_this_storage a_this_status a_this_channel a_this_registers a_this_first a_this_second (false, o_this.2.1, o_this.2.2.1, o_this.2.2.2.1, o_this.2.2.2.2.1, o_this.2.2.2.2.2.1, o_this.2.2.2.2.2.2.1, o_this.2.2.2.2.2.2.2.1, o_this.2.2.2.2.2.2.2.2.1, o_this.2.2.2.2.2.2.2.2.2)), (a_this_channel, oX0 a_this_channel_reader a_this_channel_printer o_this_channel), (a_this_status, oX5 w_12.1), (a_this_storage, oX6 a_this_storage_bytes a_this_storage_keys), (a_this_storage_bytes, .inl (k_this_storage_bytes, 2048, .inl w_12.2))] := hD
      rw [q_let_of hw] at hF
      refine lv_iconst (v := 1) hx hb dX3_takeInterruption_34 (by decide) ?_
      exact hQ true (true, (false, o_this.2.1, o_this.2.2.1, o_this.2.2.2.1, o_this.2.2.2.2.1, o_this.2.2.2.2.2.1, o_this.2.2.2.2.2.2.1, o_this.2.2.2.2.2.2.2.1, o_this.2.2.2.2.2.2.2.2.1, o_this.2.2.2.2.2.2.2.2.2), o_this_channel, w_12.1, w_12.2) _ _ _ _ dX3_takeInterruption_35 ⟨hF.symm, rfl⟩ hP hD hS
theorem cv_X3_takeInterruption : qV yX3_takeInterruption cX3_takeInterruption 1 (some .boolean) 0 := ⟨kc_X3_takeInterruption, kt_X3_takeInterruption, ks_X3_takeInterruption, kn_X3, by decide, by decide +kernel⟩
def f_X3_runTimer (o_this : Bool × Int32 × Int32 × Int32 × Int32 × Int32 × Int32 × Int32 × Int32 × Int32) (r_this_storage_bytes : Nat → Int32) : (Bool × Int32 × Int32 × Int32 × Int32 × Int32 × Int32 × Int32 × Int32 × Int32) × (Nat → Int32) := (q_let (f_X6_putWord r_this_storage_bytes 80 ((f_X6_wordAt r_this_storage_bytes 80) - (1 : Int32))) fun w_2 => (if ((f_X6_wordAt r_this_storage_bytes 80) - (1 : Int32)) = ((-1) : Int32) then ((true, o_this.2.1, o_this.2.2.1, o_this.2.2.2.1, o_this.2.2.2.2.1, o_this.2.2.2.2.2.1, o_this.2.2.2.2.2.2.1, o_this.2.2.2.2.2.2.2.1, o_this.2.2.2.2.2.2.2.2.1, o_this.2.2.2.2.2.2.2.2.2), w_2) else (o_this, w_2)))
set_option linter.all false in
set_option maxHeartbeats 4000000 in
set_option maxRecDepth 100000 in
theorem c_X3_runTimer (l : Launch) (D : va_G) (a_this a_this_storage a_this_storage_bytes a_this_status a_this_channel a_this_registers a_this_first a_this_second a_this_storage_keys : Nat) (k_this_storage_bytes : ClassId) (o_this : Bool × Int32 × Int32 × Int32 × Int32 × Int32 × Int32 × Int32 × Int32 × Int32) (r_this_storage_bytes : Nat → Int32) : CtV l yX3_runTimer cX3_runTimer 2 none { frames := 2, cells := 0, slots := 0, locals := 45 } D [.ref a_this] [(a_this, oX3 a_this_storage a_this_status a_this_channel a_this_registers a_this_first a_this_second o_this), (a_this_storage, oX6 a_this_storage_bytes a_this_storage_keys), (a_this_storage_bytes, .inl (k_this_storage_bytes, 2048, .inl r_this_storage_bytes))] [(k_this_storage_bytes, .byte)] (fun (u : (Bool × Int32 × Int32 × Int32 × Int32 × Int32 × Int32 × Int32 × Int32 × Int32) × (Nat → Int32)) => f_X3_runTimer o_this r_this_storage_bytes = u) (fun u => [(a_this, oX3 a_this_storage a_this_status a_this_channel a_this_registers a_this_first a_this_second u.1), (a_this_storage, oX6 a_this_storage_bytes a_this_storage_keys), (a_this_storage_bytes, .inl (k_this_storage_bytes, 2048, .inl u.2))]) := by
  refine CtV.of (by decide) (Nat.le_of_ble_eq_true rfl) ?_
  intro p e s m below meth c A ls Q hE hP hD hS hl hQ
  obtain ⟨hx, hb, hml, hown, ht, hN, hK, hA⟩ := hE
  have hown : s.vm.findClass RX3 = some m.cls := hown
  have hl : lv_has ls 2 [(0, .ref a_this)] := hl
  obtain ⟨F, hF⟩ : ∃ F, f_X3_runTimer o_this r_this_storage_bytes = F := ⟨_, rfl⟩
  rw [hF] at hQ
  unfold f_X3_runTimer at hF
  refine lv_aload_n hx hb dX3_runTimer_0 rfl (lv_at hl 0 rfl) ?_
  refine gf_X3_12 (v := .ref a_this_storage) hx hb hown ht hK hP 0 rfl rfl dX3_runTimer_1 ?_
  refine lv_bipush (v := 80) hx hb dX3_runTimer_4 (by decide) ?_
  refine q_Vi (rest := []) (c_X6_wordAt l D a_this_storage a_this_storage_bytes a_this_storage_keys k_this_storage_bytes r_this_storage_bytes 80) cv_X6_wordAt hx hb hml hown ht hN hK hA hP hD hS hl.1 (km_X3_100) ⟨Nat.le_of_ble_eq_true rfl, Nat.le_of_ble_eq_true rfl⟩ rfl rfl [1, 2] (by decide) rfl [0] rfl (fun _ => rfl) (ci := 6) rfl rfl rfl rfl rfl (Nat.le_of_ble_eq_true rfl) dX3_runTimer_6 ⟨Nat.zero_le _, Nat.zero_le _⟩ (fun r u H locs hw hP hD hS => ?_)
  obtain ⟨rfl, rfl⟩ := hw
  have hP : va_P D vwCl [(a_this, oX3 a_this_storage a_this_status a_this_channel a_this_registers a_this_first a_this_second o_this), (a_this_storage, oX6 a_this_storage_bytes a_this_storage_keys), (a_this_storage_bytes, .inl (k_this_storage_bytes, 2048, .inl r_this_storage_bytes))] H := hP
  have hD : va_D A [(a_this, oX3 a_this_storage a_this_status a_this_channel a_this_registers a_this_first a_this_second o_this), (a_this_storage, oX6 a_this_storage_bytes a_this_storage_keys), (a_this_storage_bytes, .inl (k_this_storage_bytes, 2048, .inl r_this_storage_bytes))] := hD
  refine lv_iconst (v := 1) hx hb dX3_runTimer_9 (by decide) ?_
  refine lv_isub hx hb dX3_runTimer_10 ?_
  refine lv_istore_n (lv' := [(1, .int ((f_X6_wordAt r_this_storage_bytes 80) - (1 : Int32))), (0, .ref a_this)]) hx hb dX3_runTimer_11 rfl hl (by decide) rfl (fun ls hl => ?_)
  refine lv_aload_n hx hb dX3_runTimer_12 rfl (lv_at hl 1 rfl) ?_
  refine gf_X3_12 (v := .ref a_this_storage) hx hb hown ht hK hP 0 rfl rfl dX3_runTimer_13 ?_
  refine lv_bipush (v := 80) hx hb dX3_runTimer_16 (by decide) ?_
  refine lv_iload_n hx hb dX3_runTimer_18 rfl (lv_at hl 0 rfl) ?_
  refine q_Vv (rest := []) (c_X6_putWord l D a_this_storage a_this_storage_bytes a_this_storage_keys k_this_storage_bytes r_this_storage_bytes 80 ((f_X6_wordAt r_this_storage_bytes 80) - (1 : Int32))) cv_X6_putWord hx hb hml hown ht hN hK hA hP hD hS hl.1 (km_X3_104) ⟨Nat.le_of_ble_eq_true rfl, Nat.le_of_ble_eq_true rfl⟩ rfl rfl [1, 2] (by decide) rfl [0] rfl (fun _ => rfl) (ci := 6) rfl rfl rfl rfl rfl (Nat.le_of_ble_eq_true rfl) dX3_runTimer_19 ⟨Nat.zero_le _, Nat.zero_le _⟩ (fun w_2 H locs hw hP hD hS => ?_)
  have hP : va_P D vwCl [(a_this, oX3 a_this_storage a_this_status a_this_channel a_this_registers a_this_first a_this_second o_this), (a_this_storage, oX6 a_this_storage_bytes a_this_storage_keys), (a_this_storage_bytes, .inl (k_this_storage_bytes, 2048, .inl w_2))] H := hP
  have hD : va_D A [(a_this, oX3 a_this_storage a_this_status a_this_channel a_this_registers a_this_first a_this_second o_this), (a_this_storage, oX6 a_this_storage_bytes a_this_storage_keys), (a_this_storage_bytes, .inl (k_this_storage_bytes, 2048, .inl w_2))] := hD
  rw [q_let_of hw] at hF
  refine lv_iload_n hx hb dX3_runTimer_22 rfl (lv_at hl 0 rfl) ?_
  refine lv_iconst (v := (-1)) hx hb dX3_runTimer_23 (by decide) ?_
  refine lv_icmp_ne (tgt := 32) hx hb dX3_runTimer_24 (by decide) (fun c_3 => ?_) (fun c_3 => ?_)
  · skip
    rw [if_neg c_3] at hF
    exact hQ (o_this, w_2) _ _ _ _ dX3_runTimer_32 hF.symm hP hD hS
  · skip
    rw [if_pos c_3] at hF
    refine lv_aload_n hx hb dX3_runTimer_27 rfl (lv_at hl 1 rfl) ?_
    refine lv_iconst (v := 1) hx hb dX3_runTimer_28 (by decide) ?_
    refine pf_X3_86 (x := true) hx hb hown ht hK hP hD hS 0 rfl (Nat.le_of_ble_eq_true rfl) dX3_runTimer_29 (fun H locs hP hD hS => ?_)
    have hP : va_P D vwCl [(a_this, oX3 a_this_storage a_this_status a_this_channel a_this_registers a_this_first a_this_second (true, o_this.2.1, o_this.2.2.1, o_this.2.2.2.1, o_this.2.2.2.2.1, o_this.2.2.2.2.2.1, o_this.2.2.2.2.2.2.1, o_this.2.2.2.2.2.2.2.1, o_this.2.2.2.2.2.2.2.2.1, o_this.2.2.2.2.2.2.2.2.2)), (a_this_storage, oX6 a_this_storage_bytes a_this_storage_keys), (a_this_storage_bytes, .inl (k_this_storage_bytes, 2048, .inl w_2))] H := hP
    have hD : va_D A [(a_this, oX3 a_this_storage a_this_status a_this_channel a_this_registers a_this_first a_this_second (true, o_this.2.1, o_this.2.2.1, o_this.2.2.2.1, o_this.2.2.2.2.1, o_this.2.2.2.2.2.1, o_this.2.2.2.2.2.2.1, o_this.2.2.2.2.2.2.2.1, o_this.2.2.2.2.2.2.2.2.1, o_this.2.2.2.2.2.2.2.2.2)), (a_this_storage, oX6 a_this_storage_bytes a_this_storage_keys), (a_this_storage_bytes, .inl (k_this_storage_bytes, 2048, .inl w_2))] := hD
    exact hQ ((true, o_this.2.1, o_this.2.2.1, o_this.2.2.2.1, o_this.2.2.2.2.1, o_this.2.2.2.2.2.1, o_this.2.2.2.2.2.2.1, o_this.2.2.2.2.2.2.2.1, o_this.2.2.2.2.2.2.2.2.1, o_this.2.2.2.2.2.2.2.2.2), w_2) _ _ _ _ dX3_runTimer_32 hF.symm hP hD hS
theorem cv_X3_runTimer : qV yX3_runTimer cX3_runTimer 2 none 0 := ⟨kc_X3_runTimer, kt_X3_runTimer, ks_X3_runTimer, kn_X3, by decide, by decide +kernel⟩
def f_X3_lengthOf (p1 : Int32) : Int32 := (if (64 : Int32) ≤ p1 then (if (192 : Int32) ≤ p1 then 6 else 4) else 2)
set_option linter.all false in
set_option maxHeartbeats 4000000 in
set_option maxRecDepth 100000 in
theorem c_X3_lengthOf (l : Launch) (D : va_G) (p1 : Int32) : CtI l yX3_lengthOf cX3_lengthOf 1 (some .int) { frames := 0, cells := 0, slots := 0, locals := 0 } D [.int p1] [] [] (fun (r : Int32) (u : Int32) => f_X3_lengthOf p1 = u ∧ r = u) (fun u => []) := by
  refine CtI.of (by decide) (Nat.le_of_ble_eq_true rfl) ?_
  intro p e s m below meth c A ls Q hE hP hD hS hl hQ
  obtain ⟨hx, hb, hml, hown, ht, hN, hK, hA⟩ := hE
  have hown : s.vm.findClass RX3 = some m.cls := hown
  have hl : lv_has ls 1 [(0, .int p1)] := hl
  obtain ⟨F, hF⟩ : ∃ F, f_X3_lengthOf p1 = F := ⟨_, rfl⟩
  rw [hF] at hQ
  unfold f_X3_lengthOf at hF
  refine lv_iload_n hx hb dX3_lengthOf_0 rfl (lv_at hl 0 rfl) ?_
  refine lv_bipush (v := 64) hx hb dX3_lengthOf_1 (by decide) ?_
  refine lv_icmp_ge (tgt := 8) hx hb dX3_lengthOf_3 (by decide) (fun c_1 => ?_) (fun c_1 => ?_)
  · skip
    rw [if_pos c_1] at hF
    refine lv_iload_n hx hb dX3_lengthOf_8 rfl (lv_at hl 0 rfl) ?_
    refine lv_sipush (v := 192) hx hb dX3_lengthOf_9 (by decide) ?_
    refine lv_icmp_ge (tgt := 19) hx hb dX3_lengthOf_12 (by decide) (fun c_2 => ?_) (fun c_2 => ?_)
    · skip
      rw [if_pos c_2] at hF
      refine lv_bipush (v := 6) hx hb dX3_lengthOf_19 (by decide) ?_
      exact hQ 6 6 _ _ _ _ dX3_lengthOf_21 ⟨hF.symm, rfl⟩ hP hD hS
    · skip
      rw [if_neg c_2] at hF
      refine lv_iconst (v := 4) hx hb dX3_lengthOf_15 (by decide) ?_
      refine lv_goto (tgt := 21) hx hb dX3_lengthOf_16 (by decide) ?_
      exact hQ 4 4 _ _ _ _ dX3_lengthOf_21 ⟨hF.symm, rfl⟩ hP hD hS
  · skip
    rw [if_neg c_1] at hF
    refine lv_iconst (v := 2) hx hb dX3_lengthOf_6 (by decide) ?_
    exact hQ 2 2 _ _ _ _ dX3_lengthOf_7 ⟨hF.symm, rfl⟩ hP hD hS
theorem cv_X3_lengthOf : qS yX3_lengthOf cX3_lengthOf 1 (some .int) 1 := ⟨kc_X3_lengthOf, kt_X3_lengthOf, kn_X3, by decide, by decide +kernel⟩
def f_X3_isPrivileged (o_this : Bool × Int32 × Int32 × Int32 × Int32 × Int32 × Int32 × Int32 × Int32 × Int32) : Bool := (if o_this.2.2.2.2.1 = (8 : Int32) then true else (if o_this.2.2.2.2.1 = (9 : Int32) then true else (if o_this.2.2.2.2.1 = (130 : Int32) then true else (if o_this.2.2.2.2.1 = (156 : Int32) then true else (if o_this.2.2.2.2.1 = (157 : Int32) then true else false)))))
set_option linter.all false in
set_option maxHeartbeats 4000000 in
set_option maxRecDepth 100000 in
theorem c_X3_isPrivileged (l : Launch) (D : va_G) (a_this a_this_storage a_this_status a_this_channel a_this_registers a_this_first a_this_second : Nat) (o_this : Bool × Int32 × Int32 × Int32 × Int32 × Int32 × Int32 × Int32 × Int32 × Int32) : CtI l yX3_isPrivileged cX3_isPrivileged 1 (some .boolean) { frames := 0, cells := 0, slots := 0, locals := 0 } D [.ref a_this] [(a_this, oX3 a_this_storage a_this_status a_this_channel a_this_registers a_this_first a_this_second o_this)] [] (fun (r : Int32) (u : Bool) => f_X3_isPrivileged o_this = u ∧ r = bI u) (fun u => [(a_this, oX3 a_this_storage a_this_status a_this_channel a_this_registers a_this_first a_this_second o_this)]) := by
  refine CtI.ofZ (by decide) (Nat.le_of_ble_eq_true rfl) ?_
  intro p e s m below meth c A ls Q hE hP hD hS hl hQ
  obtain ⟨hx, hb, hml, hown, ht, hN, hK, hA⟩ := hE
  have hown : s.vm.findClass RX3 = some m.cls := hown
  have hl : lv_has ls 1 [(0, .ref a_this)] := hl
  obtain ⟨F, hF⟩ : ∃ F, f_X3_isPrivileged o_this = F := ⟨_, rfl⟩
  rw [hF] at hQ
  unfold f_X3_isPrivileged at hF
  refine lv_aload_n hx hb dX3_isPrivileged_0 rfl (lv_at hl 0 rfl) ?_
  refine gf_X3_61 (v := .int o_this.2.2.2.2.1) hx hb hown ht hK hP 0 rfl rfl dX3_isPrivileged_1 ?_
  rcases Classical.em (o_this.2.2.2.2.1 = (8 : Int32)) with c_1 | c_1
  · rw [if_pos c_1] at hF
    refine lv_lookup (off := 52) (tgt := 56) hx hb dX3_isPrivileged_4 (by decide) (by rw [c_1]; decide) (by decide) ?_
    refine lv_iconst (v := 1) hx hb dX3_isPrivileged_56 (by decide) ?_
    exact hQ true true _ _ _ _ dX3_isPrivileged_57 ⟨hF.symm, rfl⟩ hP hD hS
  · rw [if_neg c_1] at hF
    rcases Classical.em (o_this.2.2.2.2.1 = (9 : Int32)) with c_2 | c_2
    · rw [if_pos c_2] at hF
      refine lv_lookup (off := 52) (tgt := 56) hx hb dX3_isPrivileged_4 (by decide) (by rw [c_2]; decide) (by decide) ?_
      refine lv_iconst (v := 1) hx hb dX3_isPrivileged_56 (by decide) ?_
      exact hQ true true _ _ _ _ dX3_isPrivileged_57 ⟨hF.symm, rfl⟩ hP hD hS
    · rw [if_neg c_2] at hF
      rcases Classical.em (o_this.2.2.2.2.1 = (130 : Int32)) with c_3 | c_3
      · rw [if_pos c_3] at hF
        refine lv_lookup (off := 52) (tgt := 56) hx hb dX3_isPrivileged_4 (by decide) (by rw [c_3]; decide) (by decide) ?_
        refine lv_iconst (v := 1) hx hb dX3_isPrivileged_56 (by decide) ?_
        exact hQ true true _ _ _ _ dX3_isPrivileged_57 ⟨hF.symm, rfl⟩ hP hD hS
      · rw [if_neg c_3] at hF
        rcases Classical.em (o_this.2.2.2.2.1 = (156 : Int32)) with c_4 | c_4
        · rw [if_pos c_4] at hF
          refine lv_lookup (off := 52) (tgt := 56) hx hb dX3_isPrivileged_4 (by decide) (by rw [c_4]; decide) (by decide) ?_
          refine lv_iconst (v := 1) hx hb dX3_isPrivileged_56 (by decide) ?_
          exact hQ true true _ _ _ _ dX3_isPrivileged_57 ⟨hF.symm, rfl⟩ hP hD hS
        · rw [if_neg c_4] at hF
          rcases Classical.em (o_this.2.2.2.2.1 = (157 : Int32)) with c_5 | c_5
          · rw [if_pos c_5] at hF
            refine lv_lookup (off := 52) (tgt := 56) hx hb dX3_isPrivileged_4 (by decide) (by rw [c_5]; decide) (by decide) ?_
            refine lv_iconst (v := 1) hx hb dX3_isPrivileged_56 (by decide) ?_
            exact hQ true true _ _ _ _ dX3_isPrivileged_57 ⟨hF.symm, rfl⟩ hP hD hS
          · rw [if_neg c_5] at hF
            refine lv_lookup (off := 54) (tgt := 58) hx hb dX3_isPrivileged_4 (by decide) (by rw [lv_osw c_1 (by decide), lv_osw c_2 (by decide), lv_osw c_3 (by decide), lv_osw c_4 (by decide), lv_osw c_5 (by decide)]; rfl) (by decide) ?_
            refine lv_iconst (v := 0) hx hb dX3_isPrivileged_58 (by decide) ?_
            exact hQ false false _ _ _ _ dX3_isPrivileged_59 ⟨hF.symm, rfl⟩ hP hD hS
theorem cv_X3_isPrivileged : qV yX3_isPrivileged cX3_isPrivileged 1 (some .boolean) 0 := ⟨kc_X3_isPrivileged, kt_X3_isPrivileged, ks_X3_isPrivileged, kn_X3, by decide, by decide +kernel⟩
def f_X3_operandAt (r_this_registers : Nat → Int32) (r_this_storage_bytes : Nat → Int32) (p1 : Int32) (p2 : Int32) : Int32 := (if ((f_X6_halfAt r_this_storage_bytes p1) >>> ((12 : Int32) &&& 31)) = 0 then (if p2 = 0 then (((((f_X6_halfAt r_this_storage_bytes p1) &&& (4095 : Int32)) + (0 : Int32)) + (0 : Int32)) &&& (16777215 : Int32)) else (((((f_X6_halfAt r_this_storage_bytes p1) &&& (4095 : Int32)) + (0 : Int32)) + (f_X3_register r_this_registers p2)) &&& (16777215 : Int32))) else (if p2 = 0 then (((((f_X6_halfAt r_this_storage_bytes p1) &&& (4095 : Int32)) + (f_X3_register r_this_registers ((f_X6_halfAt r_this_storage_bytes p1) >>> ((12 : Int32) &&& 31)))) + (0 : Int32)) &&& (16777215 : Int32)) else (((((f_X6_halfAt r_this_storage_bytes p1) &&& (4095 : Int32)) + (f_X3_register r_this_registers ((f_X6_halfAt r_this_storage_bytes p1) >>> ((12 : Int32) &&& 31)))) + (f_X3_register r_this_registers p2)) &&& (16777215 : Int32))))
set_option linter.all false in
set_option maxHeartbeats 4000000 in
set_option maxRecDepth 100000 in
theorem c_X3_operandAt (l : Launch) (D : va_G) (a_this a_this_registers a_this_storage a_this_storage_bytes a_this_status a_this_channel a_this_first a_this_second a_this_storage_keys : Nat) (k_this_registers k_this_storage_bytes : ClassId) (o_this : Bool × Int32 × Int32 × Int32 × Int32 × Int32 × Int32 × Int32 × Int32 × Int32) (r_this_registers : Nat → Int32) (r_this_storage_bytes : Nat → Int32) (p1 : Int32) (p2 : Int32) : CtI l yX3_operandAt cX3_operandAt 6 (some .int) { frames := 2, cells := 0, slots := 0, locals := 42 } D [.ref a_this, .int p1, .int p2] [(a_this, oX3 a_this_storage a_this_status a_this_channel a_this_registers a_this_first a_this_second o_this), (a_this_registers, .inl (k_this_registers, 16, .inl r_this_registers)), (a_this_storage, oX6 a_this_storage_bytes a_this_storage_keys), (a_this_storage_bytes, .inl (k_this_storage_bytes, 2048, .inl r_this_storage_bytes))] [(k_this_registers, .int), (k_this_storage_bytes, .byte)] (fun (r : Int32) (u : Int32) => f_X3_operandAt r_this_registers r_this_storage_bytes p1 p2 = u ∧ r = u) (fun u => [(a_this, oX3 a_this_storage a_this_status a_this_channel a_this_registers a_this_first a_this_second o_this), (a_this_registers, .inl (k_this_registers, 16, .inl r_this_registers)), (a_this_storage, oX6 a_this_storage_bytes a_this_storage_keys), (a_this_storage_bytes, .inl (k_this_storage_bytes, 2048, .inl r_this_storage_bytes))]) := by
  refine CtI.of (by decide) (Nat.le_of_ble_eq_true rfl) ?_
  intro p e s m below meth c A ls Q hE hP hD hS hl hQ
  obtain ⟨hx, hb, hml, hown, ht, hN, hK, hA⟩ := hE
  have hown : s.vm.findClass RX3 = some m.cls := hown
  have hl : lv_has ls 6 [(0, .ref a_this), (1, .int p1), (2, .int p2)] := hl
  obtain ⟨F, hF⟩ : ∃ F, f_X3_operandAt r_this_registers r_this_storage_bytes p1 p2 = F := ⟨_, rfl⟩
  rw [hF] at hQ
  unfold f_X3_operandAt at hF
  refine lv_aload_n hx hb dX3_operandAt_0 rfl (lv_at hl 0 rfl) ?_
  refine gf_X3_12 (v := .ref a_this_storage) hx hb hown ht hK hP 0 rfl rfl dX3_operandAt_1 ?_
  refine lv_iload_n hx hb dX3_operandAt_4 rfl (lv_at hl 1 rfl) ?_
  refine q_Vi (rest := []) (c_X6_halfAt l D a_this_storage a_this_storage_bytes a_this_storage_keys k_this_storage_bytes r_this_storage_bytes p1) cv_X6_halfAt hx hb hml hown ht hN hK hA hP hD hS hl.1 (km_X3_158) ⟨Nat.le_of_ble_eq_true rfl, Nat.le_of_ble_eq_true rfl⟩ rfl rfl [2, 3] (by decide) rfl [1] rfl (fun _ => rfl) (ci := 6) rfl rfl rfl rfl rfl (Nat.le_of_ble_eq_true rfl) dX3_operandAt_5 ⟨Nat.zero_le _, Nat.zero_le _⟩ (fun r u H locs hw hP hD hS => ?_)
  obtain ⟨rfl, rfl⟩ := hw
  have hP : va_P D vwCl [(a_this, oX3 a_this_storage a_this_status a_this_channel a_this_registers a_this_first a_this_second o_this), (a_this_registers, .inl (k_this_registers, 16, .inl r_this_registers)), (a_this_storage, oX6 a_this_storage_bytes a_this_storage_keys), (a_this_storage_bytes, .inl (k_this_storage_bytes, 2048, .inl r_this_storage_bytes))] H := hP
  have hD : va_D A [(a_this, oX3 a_this_storage a_this_status a_this_channel a_this_registers a_this_first a_this_second o_this), (a_this_registers, .inl (k_this_registers, 16, .inl r_this_registers)), (a_this_storage, oX6 a_this_storage_bytes a_this_storage_keys), (a_this_storage_bytes, .inl (k_this_storage_bytes, 2048, .inl r_this_storage_bytes))] := hD
  refine lv_istore_n (lv' := [(3, .int (f_X6_halfAt r_this_storage_bytes p1)), (0, .ref a_this), (1, .int p1), (2, .int p2)]) hx hb dX3_operandAt_8 rfl hl (by decide) rfl (fun ls hl => ?_)
  refine lv_iload_n hx hb dX3_operandAt_9 rfl (lv_at hl 0 rfl) ?_
  refine lv_bipush (v := 12) hx hb dX3_operandAt_10 (by decide) ?_
  refine lv_ishr hx hb dX3_operandAt_12 ?_
  refine lv_istore (lv' := [(4, .int ((f_X6_halfAt r_this_storage_bytes p1) >>> ((12 : Int32) &&& 31))), (3, .int (f_X6_halfAt r_this_storage_bytes p1)), (0, .ref a_this), (1, .int p1), (2, .int p2)]) hx hb dX3_operandAt_13 hl (by decide) rfl (fun ls hl => ?_)
  refine lv_iload_n hx hb dX3_operandAt_15 rfl (lv_at hl 1 rfl) ?_
  refine lv_sipush (v := 4095) hx hb dX3_operandAt_16 (by decide) ?_
  refine lv_iand hx hb dX3_operandAt_19 ?_
  refine lv_istore (lv' := [(5, .int ((f_X6_halfAt r_this_storage_bytes p1) &&& (4095 : Int32))), (4, .int ((f_X6_halfAt r_this_storage_bytes p1) >>> ((12 : Int32) &&& 31))), (3, .int (f_X6_halfAt r_this_storage_bytes p1)), (0, .ref a_this), (1, .int p1), (2, .int p2)]) hx hb dX3_operandAt_20 hl (by decide) rfl (fun ls hl => ?_)
  refine lv_iload hx hb dX3_operandAt_22 (lv_at hl 0 rfl) ?_
  refine lv_iload hx hb dX3_operandAt_24 (lv_at hl 1 rfl) ?_
  refine lv_if_ne (tgt := 33) hx hb dX3_operandAt_26 (by decide) (fun c_2 => ?_) (fun c_2 => ?_)
  · skip
    rw [if_neg c_2] at hF
    refine lv_aload_n hx hb dX3_operandAt_33 rfl (lv_at hl 3 rfl) ?_
    refine lv_iload hx hb dX3_operandAt_34 (lv_at hl 1 rfl) ?_
    refine q_Vi (rest := [.int ((f_X6_halfAt r_this_storage_bytes p1) &&& (4095 : Int32))]) (c_X3_register l D a_this a_this_registers a_this_storage a_this_status a_this_channel a_this_first a_this_second k_this_registers o_this r_this_registers ((f_X6_halfAt r_this_storage_bytes p1) >>> ((12 : Int32) &&& 31))) cv_X3_register hx hb hml hown ht hN hK hA hP hD hS hl.1 (km_X3_161) ⟨Nat.le_of_ble_eq_true rfl, Nat.le_of_ble_eq_true rfl⟩ rfl rfl [0, 1] (by decide) rfl [0] rfl (fun _ => rfl) (ci := 3) rfl rfl rfl rfl rfl (Nat.le_of_ble_eq_true rfl) dX3_operandAt_36 ⟨Nat.zero_le _, Nat.zero_le _⟩ (fun r u H locs hw hP hD hS => ?_)
    obtain ⟨rfl, rfl⟩ := hw
    have hP : va_P D vwCl [(a_this, oX3 a_this_storage a_this_status a_this_channel a_this_registers a_this_first a_this_second o_this), (a_this_registers, .inl (k_this_registers, 16, .inl r_this_registers)), (a_this_storage, oX6 a_this_storage_bytes a_this_storage_keys), (a_this_storage_bytes, .inl (k_this_storage_bytes, 2048, .inl r_this_storage_bytes))] H := hP
    have hD : va_D A [(a_this, oX3 a_this_storage a_this_status a_this_channel a_this_registers a_this_first a_this_second o_this), (a_this_registers, .inl (k_this_registers, 16, .inl r_this_registers)), (a_this_storage, oX6 a_this_storage_bytes a_this_storage_keys), (a_this_storage_bytes, .inl (k_this_storage_bytes, 2048, .inl r_this_storage_bytes))] := hD
    refine lv_iadd hx hb dX3_operandAt_39 ?_
    refine lv_istore (lv' := [(5, .int (((f_X6_halfAt r_this_storage_bytes p1) &&& (4095 : Int32)) + (f_X3_register r_this_registers ((f_X6_halfAt r_this_storage_bytes p1) >>> ((12 : Int32) &&& 31))))), (4, .int ((f_X6_halfAt r_this_storage_bytes p1) >>> ((12 : Int32) &&& 31))), (3, .int (f_X6_halfAt r_this_storage_bytes p1)), (0, .ref a_this), (1, .int p1), (2, .int p2)]) hx hb dX3_operandAt_40 hl (by decide) rfl (fun ls hl => ?_)
    refine lv_iload hx hb dX3_operandAt_42 (lv_at hl 0 rfl) ?_
    refine lv_iload_n hx hb dX3_operandAt_44 rfl (lv_at hl 5 rfl) ?_
    refine lv_if_ne (tgt := 52) hx hb dX3_operandAt_45 (by decide) (fun c_4 => ?_) (fun c_4 => ?_)
    · skip
      rw [if_neg c_4] at hF
      refine lv_aload_n hx hb dX3_operandAt_52 rfl (lv_at hl 3 rfl) ?_
      refine lv_iload_n hx hb dX3_operandAt_53 rfl (lv_at hl 5 rfl) ?_
      refine q_Vi (rest := [.int (((f_X6_halfAt r_this_storage_bytes p1) &&& (4095 : Int32)) + (f_X3_register r_this_registers ((f_X6_halfAt r_this_storage_bytes p1) >>> ((12 : Int32) &&& 31))))]) (c_X3_register l D a_this a_this_registers a_this_storage a_this_status a_this_channel a_this_first a_this_second k_this_registers o_this r_this_registers p2) cv_X3_register hx hb hml hown ht hN hK hA hP hD hS hl.1 (km_X3_161) ⟨Nat.le_of_ble_eq_true rfl, Nat.le_of_ble_eq_true rfl⟩ rfl rfl [0, 1] (by decide) rfl [0] rfl (fun _ => rfl) (ci := 3) rfl rfl rfl rfl rfl (Nat.le_of_ble_eq_true rfl) dX3_operandAt_54 ⟨Nat.zero_le _, Nat.zero_le _⟩ (fun r u H locs hw hP hD hS => ?_)
      obtain ⟨rfl, rfl⟩ := hw
      have hP : va_P D vwCl [(a_this, oX3 a_this_storage a_this_status a_this_channel a_this_registers a_this_first a_this_second o_this), (a_this_registers, .inl (k_this_registers, 16, .inl r_this_registers)), (a_this_storage, oX6 a_this_storage_bytes a_this_storage_keys), (a_this_storage_bytes, .inl (k_this_storage_bytes, 2048, .inl r_this_storage_bytes))] H := hP
      have hD : va_D A [(a_this, oX3 a_this_storage a_this_status a_this_channel a_this_registers a_this_first a_this_second o_this), (a_this_registers, .inl (k_this_registers, 16, .inl r_this_registers)), (a_this_storage, oX6 a_this_storage_bytes a_this_storage_keys), (a_this_storage_bytes, .inl (k_this_storage_bytes, 2048, .inl r_this_storage_bytes))] := hD
      refine lv_iadd hx hb dX3_operandAt_57 ?_
      refine lv_istore (lv' := [(5, .int ((((f_X6_halfAt r_this_storage_bytes p1) &&& (4095 : Int32)) + (f_X3_register r_this_registers ((f_X6_halfAt r_this_storage_bytes p1) >>> ((12 : Int32) &&& 31)))) + (f_X3_register r_this_registers p2))), (4, .int ((f_X6_halfAt r_this_storage_bytes p1) >>> ((12 : Int32) &&& 31))), (3, .int (f_X6_halfAt r_this_storage_bytes p1)), (0, .ref a_this), (1, .int p1), (2, .int p2)]) hx hb dX3_operandAt_58 hl (by decide) rfl (fun ls hl => ?_)
      refine lv_iload hx hb dX3_operandAt_60 (lv_at hl 0 rfl) ?_
      refine lv_ldc (v := 16777215) hx hb hown (ht _ ki_X3_164) dX3_operandAt_62 ?_
      refine lv_iand hx hb dX3_operandAt_64 ?_
      exact hQ (((((f_X6_halfAt r_this_storage_bytes p1) &&& (4095 : Int32)) + (f_X3_register r_this_registers ((f_X6_halfAt r_this_storage_bytes p1) >>> ((12 : Int32) &&& 31)))) + (f_X3_register r_this_registers p2)) &&& (16777215 : Int32)) (((((f_X6_halfAt r_this_storage_bytes p1) &&& (4095 : Int32)) + (f_X3_register r_this_registers ((f_X6_halfAt r_this_storage_bytes p1) >>> ((12 : Int32) &&& 31)))) + (f_X3_register r_this_registers p2)) &&& (16777215 : Int32)) _ _ _ _ dX3_operandAt_65 ⟨hF.symm, rfl⟩ hP hD hS
    · skip
      rw [if_pos c_4] at hF
      refine lv_iconst (v := 0) hx hb dX3_operandAt_48 (by decide) ?_
      refine lv_goto (tgt := 57) hx hb dX3_operandAt_49 (by decide) ?_
      refine lv_iadd hx hb dX3_operandAt_57 ?_
      refine lv_istore (lv' := [(5, .int ((((f_X6_halfAt r_this_storage_bytes p1) &&& (4095 : Int32)) + (f_X3_register r_this_registers ((f_X6_halfAt r_this_storage_bytes p1) >>> ((12 : Int32) &&& 31)))) + (0 : Int32))), (4, .int ((f_X6_halfAt r_this_storage_bytes p1) >>> ((12 : Int32) &&& 31))), (3, .int (f_X6_halfAt r_this_storage_bytes p1)), (0, .ref a_this), (1, .int p1), (2, .int p2)]) hx hb dX3_operandAt_58 hl (by decide) rfl (fun ls hl => ?_)
      refine lv_iload hx hb dX3_operandAt_60 (lv_at hl 0 rfl) ?_
      refine lv_ldc (v := 16777215) hx hb hown (ht _ ki_X3_164) dX3_operandAt_62 ?_
      refine lv_iand hx hb dX3_operandAt_64 ?_
      exact hQ (((((f_X6_halfAt r_this_storage_bytes p1) &&& (4095 : Int32)) + (f_X3_register r_this_registers ((f_X6_halfAt r_this_storage_bytes p1) >>> ((12 : Int32) &&& 31)))) + (0 : Int32)) &&& (16777215 : Int32)) (((((f_X6_halfAt r_this_storage_bytes p1) &&& (4095 : Int32)) + (f_X3_register r_this_registers ((f_X6_halfAt r_this_storage_bytes p1) >>> ((12 : Int32) &&& 31)))) + (0 : Int32)) &&& (16777215 : Int32)) _ _ _ _ dX3_operandAt_65 ⟨hF.symm, rfl⟩ hP hD hS
  · skip
    rw [if_pos c_2] at hF
    refine lv_iconst (v := 0) hx hb dX3_operandAt_29 (by decide) ?_
    refine lv_goto (tgt := 39) hx hb dX3_operandAt_30 (by decide) ?_
    refine lv_iadd hx hb dX3_operandAt_39 ?_
    refine lv_istore (lv' := [(5, .int (((f_X6_halfAt r_this_storage_bytes p1) &&& (4095 : Int32)) + (0 : Int32))), (4, .int ((f_X6_halfAt r_this_storage_bytes p1) >>> ((12 : Int32) &&& 31))), (3, .int (f_X6_halfAt r_this_storage_bytes p1)), (0, .ref a_this), (1, .int p1), (2, .int p2)]) hx hb dX3_operandAt_40 hl (by decide) rfl (fun ls hl => ?_)
    refine lv_iload hx hb dX3_operandAt_42 (lv_at hl 0 rfl) ?_
    refine lv_iload_n hx hb dX3_operandAt_44 rfl (lv_at hl 5 rfl) ?_
    refine lv_if_ne (tgt := 52) hx hb dX3_operandAt_45 (by decide) (fun c_6 => ?_) (fun c_6 => ?_)
    · skip
      rw [if_neg c_6] at hF
      refine lv_aload_n hx hb dX3_operandAt_52 rfl (lv_at hl 3 rfl) ?_
      refine lv_iload_n hx hb dX3_operandAt_53 rfl (lv_at hl 5 rfl) ?_
      refine q_Vi (rest := [.int (((f_X6_halfAt r_this_storage_bytes p1) &&& (4095 : Int32)) + (0 : Int32))]) (c_X3_register l D a_this a_this_registers a_this_storage a_this_status a_this_channel a_this_first a_this_second k_this_registers o_this r_this_registers p2) cv_X3_register hx hb hml hown ht hN hK hA hP hD hS hl.1 (km_X3_161) ⟨Nat.le_of_ble_eq_true rfl, Nat.le_of_ble_eq_true rfl⟩ rfl rfl [0, 1] (by decide) rfl [0] rfl (fun _ => rfl) (ci := 3) rfl rfl rfl rfl rfl (Nat.le_of_ble_eq_true rfl) dX3_operandAt_54 ⟨Nat.zero_le _, Nat.zero_le _⟩ (fun r u H locs hw hP hD hS => ?_)
      obtain ⟨rfl, rfl⟩ := hw
      have hP : va_P D vwCl [(a_this, oX3 a_this_storage a_this_status a_this_channel a_this_registers a_this_first a_this_second o_this), (a_this_registers, .inl (k_this_registers, 16, .inl r_this_registers)), (a_this_storage, oX6 a_this_storage_bytes a_this_storage_keys), (a_this_storage_bytes, .inl (k_this_storage_bytes, 2048, .inl r_this_storage_bytes))] H := hP
      have hD : va_D A [(a_this, oX3 a_this_storage a_this_status a_this_channel a_this_registers a_this_first a_this_second o_this), (a_this_registers, .inl (k_this_registers, 16, .inl r_this_registers)), (a_this_storage, oX6 a_this_storage_bytes a_this_storage_keys), (a_this_storage_bytes, .inl (k_this_storage_bytes, 2048, .inl r_this_storage_bytes))] := hD
      refine lv_iadd hx hb dX3_operandAt_57 ?_
      refine lv_istore (lv' := [(5, .int ((((f_X6_halfAt r_this_storage_bytes p1) &&& (4095 : Int32)) + (0 : Int32)) + (f_X3_register r_this_registers p2))), (4, .int ((f_X6_halfAt r_this_storage_bytes p1) >>> ((12 : Int32) &&& 31))), (3, .int (f_X6_halfAt r_this_storage_bytes p1)), (0, .ref a_this), (1, .int p1), (2, .int p2)]) hx hb dX3_operandAt_58 hl (by decide) rfl (fun ls hl => ?_)
      refine lv_iload hx hb dX3_operandAt_60 (lv_at hl 0 rfl) ?_
      refine lv_ldc (v := 16777215) hx hb hown (ht _ ki_X3_164) dX3_operandAt_62 ?_
      refine lv_iand hx hb dX3_operandAt_64 ?_
      exact hQ (((((f_X6_halfAt r_this_storage_bytes p1) &&& (4095 : Int32)) + (0 : Int32)) + (f_X3_register r_this_registers p2)) &&& (16777215 : Int32)) (((((f_X6_halfAt r_this_storage_bytes p1) &&& (4095 : Int32)) + (0 : Int32)) + (f_X3_register r_this_registers p2)) &&& (16777215 : Int32)) _ _ _ _ dX3_operandAt_65 ⟨hF.symm, rfl⟩ hP hD hS
    · skip
      rw [if_pos c_6] at hF
      refine lv_iconst (v := 0) hx hb dX3_operandAt_48 (by decide) ?_
      refine lv_goto (tgt := 57) hx hb dX3_operandAt_49 (by decide) ?_
      refine lv_iadd hx hb dX3_operandAt_57 ?_
      refine lv_istore (lv' := [(5, .int ((((f_X6_halfAt r_this_storage_bytes p1) &&& (4095 : Int32)) + (0 : Int32)) + (0 : Int32))), (4, .int ((f_X6_halfAt r_this_storage_bytes p1) >>> ((12 : Int32) &&& 31))), (3, .int (f_X6_halfAt r_this_storage_bytes p1)), (0, .ref a_this), (1, .int p1), (2, .int p2)]) hx hb dX3_operandAt_58 hl (by decide) rfl (fun ls hl => ?_)
      refine lv_iload hx hb dX3_operandAt_60 (lv_at hl 0 rfl) ?_
      refine lv_ldc (v := 16777215) hx hb hown (ht _ ki_X3_164) dX3_operandAt_62 ?_
      refine lv_iand hx hb dX3_operandAt_64 ?_
      exact hQ (((((f_X6_halfAt r_this_storage_bytes p1) &&& (4095 : Int32)) + (0 : Int32)) + (0 : Int32)) &&& (16777215 : Int32)) (((((f_X6_halfAt r_this_storage_bytes p1) &&& (4095 : Int32)) + (0 : Int32)) + (0 : Int32)) &&& (16777215 : Int32)) _ _ _ _ dX3_operandAt_65 ⟨hF.symm, rfl⟩ hP hD hS
theorem cv_X3_operandAt : qV yX3_operandAt cX3_operandAt 6 (some .int) 2 := ⟨kc_X3_operandAt, kt_X3_operandAt, ks_X3_operandAt, kn_X3, by decide, by decide +kernel⟩
def f_X3_decode (o_this : Bool × Int32 × Int32 × Int32 × Int32 × Int32 × Int32 × Int32 × Int32 × Int32) (r_this_registers : Nat → Int32) (r_this_storage_bytes : Nat → Int32) (p1 : Int32) : Bool × Int32 × Int32 × Int32 × Int32 × Int32 × Int32 × Int32 × Int32 × Int32 := (if (o_this.2.2.2.2.1 >>> ((6 : Int32) &&& 31)) = (1 : Int32) then (o_this.1, o_this.2.1, o_this.2.2.1, o_this.2.2.2.1, o_this.2.2.2.2.1, (f_X6_byteAt r_this_storage_bytes (p1 + (1 : Int32))), ((f_X6_byteAt r_this_storage_bytes (p1 + (1 : Int32))) >>> ((4 : Int32) &&& 31)), ((f_X6_byteAt r_this_storage_bytes (p1 + (1 : Int32))) &&& (15 : Int32)), (f_X3_operandAt r_this_registers r_this_storage_bytes (p1 + (2 : Int32)) ((f_X6_byteAt r_this_storage_bytes (p1 + (1 : Int32))) &&& (15 : Int32))), (f_X3_operandAt r_this_registers r_this_storage_bytes (p1 + (4 : Int32)) 0)) else (o_this.1, o_this.2.1, o_this.2.2.1, o_this.2.2.2.1, o_this.2.2.2.2.1, (f_X6_byteAt r_this_storage_bytes (p1 + (1 : Int32))), ((f_X6_byteAt r_this_storage_bytes (p1 + (1 : Int32))) >>> ((4 : Int32) &&& 31)), ((f_X6_byteAt r_this_storage_bytes (p1 + (1 : Int32))) &&& (15 : Int32)), (f_X3_operandAt r_this_registers r_this_storage_bytes (p1 + (2 : Int32)) 0), (f_X3_operandAt r_this_registers r_this_storage_bytes (p1 + (4 : Int32)) 0)))
set_option linter.all false in
set_option maxHeartbeats 4000000 in
set_option maxRecDepth 100000 in
theorem c_X3_decode (l : Launch) (D : va_G) (a_this a_this_registers a_this_storage a_this_storage_bytes a_this_status a_this_channel a_this_first a_this_second a_this_storage_keys : Nat) (k_this_registers k_this_storage_bytes : ClassId) (o_this : Bool × Int32 × Int32 × Int32 × Int32 × Int32 × Int32 × Int32 × Int32 × Int32) (r_this_registers : Nat → Int32) (r_this_storage_bytes : Nat → Int32) (p1 : Int32) : CtV l yX3_decode cX3_decode 3 none { frames := 3, cells := 0, slots := 0, locals := 67 } D [.ref a_this, .int p1] [(a_this, oX3 a_this_storage a_this_status a_this_channel a_this_registers a_this_first a_this_second o_this), (a_this_registers, .inl (k_this_registers, 16, .inl r_this_registers)), (a_this_storage, oX6 a_this_storage_bytes a_this_storage_keys), (a_this_storage_bytes, .inl (k_this_storage_bytes, 2048, .inl r_this_storage_bytes))] [(k_this_registers, .int), (k_this_storage_bytes, .byte)] (fun (u : Bool × Int32 × Int32 × Int32 × Int32 × Int32 × Int32 × Int32 × Int32 × Int32) => f_X3_decode o_this r_this_registers r_this_storage_bytes p1 = u) (fun u => [(a_this, oX3 a_this_storage a_this_status a_this_channel a_this_registers a_this_first a_this_second u), (a_this_registers, .inl (k_this_registers, 16, .inl r_this_registers)), (a_this_storage, oX6 a_this_storage_bytes a_this_storage_keys), (a_this_storage_bytes, .inl (k_this_storage_bytes, 2048, .inl r_this_storage_bytes))]) := by
  refine CtV.of (by decide) (Nat.le_of_ble_eq_true rfl) ?_
  intro p e s m below meth c A ls Q hE hP hD hS hl hQ
  obtain ⟨hx, hb, hml, hown, ht, hN, hK, hA⟩ := hE
  have hown : s.vm.findClass RX3 = some m.cls := hown
  have hl : lv_has ls 3 [(0, .ref a_this), (1, .int p1)] := hl
  obtain ⟨F, hF⟩ : ∃ F, f_X3_decode o_this r_this_registers r_this_storage_bytes p1 = F := ⟨_, rfl⟩
  rw [hF] at hQ
  unfold f_X3_decode at hF
  refine lv_aload_n hx hb dX3_decode_0 rfl (lv_at hl 0 rfl) ?_
  refine lv_aload_n hx hb dX3_decode_1 rfl (lv_at hl 0 rfl) ?_
  refine gf_X3_12 (v := .ref a_this_storage) hx hb hown ht hK hP 0 rfl rfl dX3_decode_2 ?_
  refine lv_iload_n hx hb dX3_decode_5 rfl (lv_at hl 1 rfl) ?_
  refine lv_iconst (v := 1) hx hb dX3_decode_6 (by decide) ?_
  refine lv_iadd hx hb dX3_decode_7 ?_
  refine q_Vi (rest := [.ref a_this]) (c_X6_byteAt l D a_this_storage a_this_storage_bytes a_this_storage_keys k_this_storage_bytes r_this_storage_bytes (p1 + (1 : Int32))) cv_X6_byteAt hx hb hml hown ht hN hK hA hP hD hS hl.1 (km_X3_119) ⟨Nat.le_of_ble_eq_true rfl, Nat.le_of_ble_eq_true rfl⟩ rfl rfl [2, 3] (by decide) rfl [1] rfl (fun _ => rfl) (ci := 6) rfl rfl rfl rfl rfl (Nat.le_of_ble_eq_true rfl) dX3_decode_8 ⟨Nat.zero_le _, Nat.zero_le _⟩ (fun r u H locs hw hP hD hS => ?_)
  obtain ⟨rfl, rfl⟩ := hw
  have hP : va_P D vwCl [(a_this, oX3 a_this_storage a_this_status a_this_channel a_this_registers a_this_first a_this_second o_this), (a_this_registers, .inl (k_this_registers, 16, .inl r_this_registers)), (a_this_storage, oX6 a_this_storage_bytes a_this_storage_keys), (a_this_storage_bytes, .inl (k_this_storage_bytes, 2048, .inl r_this_storage_bytes))] H := hP
  have hD : va_D A [(a_this, oX3 a_this_storage a_this_status a_this_channel a_this_registers a_this_first a_this_second o_this), (a_this_registers, .inl (k_this_registers, 16, .inl r_this_registers)), (a_this_storage, oX6 a_this_storage_bytes a_this_storage_keys), (a_this_storage_bytes, .inl (k_this_storage_bytes, 2048, .inl r_this_storage_bytes))] := hD
  refine pf_X3_139 (x := (f_X6_byteAt r_this_storage_bytes (p1 + (1 : Int32)))) hx hb hown ht hK hP hD hS 0 rfl (Nat.le_of_ble_eq_true rfl) dX3_decode_11 (fun H locs hP hD hS => ?_)
  have hP : va_P D vwCl [(a_this, oX3 a_this_storage a_this_status a_this_channel a_this_registers a_this_first a_this_second (o_this.1, o_this.2.1, o_this.2.2.1, o_this.2.2.2.1, o_this.2.2.2.2.1, (f_X6_byteAt r_this_storage_bytes (p1 + (1 : Int32))), o_this.2.2.2.2.2.2.1, o_this.2.2.2.2.2.2.2.1, o_this.2.2.2.2.2.2.2.2.1, o_this.2.2.2.2.2.2.2.2.2)), (a_this_registers, .inl (k_this_registers, 16, .inl r_this_registers)), (a_this_storage, oX6 a_this_storage_bytes a_this_storage_keys), (a_this_storage_bytes, .inl (k_this_storage_bytes, 2048, .inl r_this_storage_bytes))] H := hP
  have hD : va_D A [(a_this, oX3 a_this_storage a_this_status a_this_channel a_this_registers a_this_first a_this_second (o_this.1, o_this.2.1, o_this.2.2.1, o_this.2.2.2.1, o_this.2.2.2.2.1, (f_X6_byteAt r_this_storage_bytes (p1 + (1 : Int32))), o_this.2.2.2.2.2.2.1, o_this.2.2.2.2.2.2.2.1, o_this.2.2.2.2.2.2.2.2.1, o_this.2.2.2.2.2.2.2.2.2)), (a_this_registers, .inl (k_this_registers, 16, .inl r_this_registers)), (a_this_storage, oX6 a_this_storage_bytes a_this_storage_keys), (a_this_storage_bytes, .inl (k_this_storage_bytes, 2048, .inl r_this_storage_bytes))] := hD
  refine lv_aload_n hx hb dX3_decode_14 rfl (lv_at hl 0 rfl) ?_
  refine lv_aload_n hx hb dX3_decode_15 rfl (lv_at hl 0 rfl) ?_
  refine gf_X3_139 (v := .int (f_X6_byteAt r_this_storage_bytes (p1 + (1 : Int32)))) hx hb hown ht hK hP 0 rfl rfl dX3_decode_16 ?_
  refine lv_iconst (v := 4) hx hb dX3_decode_19 (by decide) ?_
  refine lv_ishr hx hb dX3_decode_20 ?_
  refine pf_X3_142 (x := ((f_X6_byteAt r_this_storage_bytes (p1 + (1 : Int32))) >>> ((4 : Int32) &&& 31))) hx hb hown ht hK hP hD hS 0 rfl (Nat.le_of_ble_eq_true rfl) dX3_decode_21 (fun H locs hP hD hS => ?_)
  have hP : va_P D vwCl [(a_this, oX3 a_this_storage a_this_status a_this_channel a_this_registers a_this_first a_this_second (o_this.1, o_this.2.1, o_this.2.2.1, o_this.2.2.2.1, o_this.2.2.2.2.1, (f_X6_byteAt r_this_storage_bytes (p1 + (1 : Int32))), ((f_X6_byteAt r_this_storage_bytes (p1 + (1 : Int32))) >>> ((4 : Int32) &&& 31)), o_this.2.2.2.2.2.2.2.1, o_this.2.2.2.2.2.2.2.2.1, o_this.2.2.2.2.2.2.2.2.2)), (a_this_registers, .inl (k_this_registers, 16, .inl r_this_registers)), (a_this_storage, oX6 a_this_storage_bytes a_this_storage_keys), (a_this_storage_bytes, .inl (k_this_storage_bytes, 2048, .inl r_this_storage_bytes))] H := hP
  have hD : va_D A [(a_this, oX3 a_this_storage a_this_status a_this_channel a_this_registers a_this_first a_this_second (o_this.1, o_this.2.1, o_this.2.2.1, o_this.2.2.2.1, o_this.2.2.2.2.1, (f_X6_byteAt r_this_storage_bytes (p1 + (1 : Int32))), ((f_X6_byteAt r_this_storage_bytes (p1 + (1 : Int32))) >>> ((4 : Int32) &&& 31)), o_this.2.2.2.2.2.2.2.1, o_this.2.2.2.2.2.2.2.2.1, o_this.2.2.2.2.2.2.2.2.2)), (a_this_registers, .inl (k_this_registers, 16, .inl r_this_registers)), (a_this_storage, oX6 a_this_storage_bytes a_this_storage_keys), (a_this_storage_bytes, .inl (k_this_storage_bytes, 2048, .inl r_this_storage_bytes))] := hD
  refine lv_aload_n hx hb dX3_decode_24 rfl (lv_at hl 0 rfl) ?_
  refine lv_aload_n hx hb dX3_decode_25 rfl (lv_at hl 0 rfl) ?_
  refine gf_X3_139 (v := .int (f_X6_byteAt r_this_storage_bytes (p1 + (1 : Int32)))) hx hb hown ht hK hP 0 rfl rfl dX3_decode_26 ?_
  refine lv_bipush (v := 15) hx hb dX3_decode_29 (by decide) ?_
  refine lv_iand hx hb dX3_decode_31 ?_
  refine pf_X3_145 (x := ((f_X6_byteAt r_this_storage_bytes (p1 + (1 : Int32))) &&& (15 : Int32))) hx hb hown ht hK hP hD hS 0 rfl (Nat.le_of_ble_eq_true rfl) dX3_decode_32 (fun H locs hP hD hS => ?_)
  have hP : va_P D vwCl [(a_this, oX3 a_this_storage a_this_status a_this_channel a_this_registers a_this_first a_this_second (o_this.1, o_this.2.1, o_this.2.2.1, o_this.2.2.2.1, o_this.2.2.2.2.1, (f_X6_byteAt r_this_storage_bytes (p1 + (1 : Int32))), ((f_X6_byteAt r_this_storage_bytes (p1 + (1 : Int32))) >>> ((4 : Int32) &&& 31)), ((f_X6_byteAt r_this_storage_bytes (p1 + (1 : Int32))) &&& (15 : Int32)), o_this.2.2.2.2.2.2.2.2.1, o_this.2.2.2.2.2.2.2.2.2)), (a_this_registers, .inl (k_this_registers, 16, .inl r_this_registers)), (a_this_storage, oX6 a_this_storage_bytes a_this_storage_keys), (a_this_storage_bytes, .inl (k_this_storage_bytes, 2048, .inl r_this_storage_bytes))] H := hP
  have hD : va_D A [(a_this, oX3 a_this_storage a_this_status a_this_channel a_this_registers a_this_first a_this_second (o_this.1, o_this.2.1, o_this.2.2.1, o_this.2.2.2.1, o_this.2.2.2.2.1, (f_X6_byteAt r_this_storage_bytes (p1 + (1 : Int32))), ((f_X6_byteAt r_this_storage_bytes (p1 + (1 : Int32))) >>> ((4 : Int32) &&& 31)), ((f_X6_byteAt r_this_storage_bytes (p1 + (1 : Int32))) &&& (15 : Int32)), o_this.2.2.2.2.2.2.2.2.1, o_this.2.2.2.2.2.2.2.2.2)), (a_this_registers, .inl (k_this_registers, 16, .inl r_this_registers)), (a_this_storage, oX6 a_this_storage_bytes a_this_storage_keys), (a_this_storage_bytes, .inl (k_this_storage_bytes, 2048, .inl r_this_storage_bytes))] := hD
  refine lv_aload_n hx hb dX3_decode_35 rfl (lv_at hl 0 rfl) ?_
  refine gf_X3_61 (v := .int o_this.2.2.2.2.1) hx hb hown ht hK hP 0 rfl rfl dX3_decode_36 ?_
  refine lv_bipush (v := 6) hx hb dX3_decode_39 (by decide) ?_
  refine lv_ishr hx hb dX3_decode_41 ?_
  refine lv_iconst (v := 1) hx hb dX3_decode_42 (by decide) ?_
  refine lv_icmp_ne (tgt := 50) hx hb dX3_decode_43 (by decide) (fun c_2 => ?_) (fun c_2 => ?_)
  · skip
    rw [if_neg c_2] at hF
    refine lv_iconst (v := 0) hx hb dX3_decode_50 (by decide) ?_
    refine lv_istore_n (lv' := [(2, .int 0), (0, .ref a_this), (1, .int p1)]) hx hb dX3_decode_51 rfl hl (by decide) rfl (fun ls hl => ?_)
    refine lv_aload_n hx hb dX3_decode_52 rfl (lv_at hl 1 rfl) ?_
    refine lv_aload_n hx hb dX3_decode_53 rfl (lv_at hl 1 rfl) ?_
    refine lv_iload_n hx hb dX3_decode_54 rfl (lv_at hl 2 rfl) ?_
    refine lv_iconst (v := 2) hx hb dX3_decode_55 (by decide) ?_
    refine lv_iadd hx hb dX3_decode_56 ?_
    refine lv_iload_n hx hb dX3_decode_57 rfl (lv_at hl 0 rfl) ?_
    refine lv_if_eq (tgt := 68) hx hb dX3_decode_58 (by decide) (fun c_3 => ?_) (fun c_3 => ?_)
    · skip
      refine lv_iconst (v := 0) hx hb dX3_decode_68 (by decide) ?_
      refine q_Vi (rest := [.ref a_this]) (c_X3_operandAt l D a_this a_this_registers a_this_storage a_this_storage_bytes a_this_status a_this_channel a_this_first a_this_second a_this_storage_keys k_this_registers k_this_storage_bytes (o_this.1, o_this.2.1, o_this.2.2.1, o_this.2.2.2.1, o_this.2.2.2.2.1, (f_X6_byteAt r_this_storage_bytes (p1 + (1 : Int32))), ((f_X6_byteAt r_this_storage_bytes (p1 + (1 : Int32))) >>> ((4 : Int32) &&& 31)), ((f_X6_byteAt r_this_storage_bytes (p1 + (1 : Int32))) &&& (15 : Int32)), o_this.2.2.2.2.2.2.2.2.1, o_this.2.2.2.2.2.2.2.2.2) r_this_registers r_this_storage_bytes (p1 + (2 : Int32)) 0) cv_X3_operandAt hx hb hml hown ht hN hK hA hP hD hS hl.1 (km_X3_148) ⟨Nat.le_of_ble_eq_true rfl, Nat.le_of_ble_eq_true rfl⟩ rfl rfl [0, 1, 2, 3] (by decide) rfl [0, 1] rfl (fun _ => rfl) (ci := 3) rfl rfl rfl rfl rfl (Nat.le_of_ble_eq_true rfl) dX3_decode_69 ⟨Nat.zero_le _, Nat.zero_le _⟩ (fun r u H locs hw hP hD hS => ?_)
      obtain ⟨rfl, rfl⟩ := hw
      have hP : va_P D vwCl [(a_this, oX3 a_this_storage a_this_status a_this_channel a_this_registers a_this_first a_this_second (o_this.1, o_this.2.1, o_this.2.2.1, o_this.2.2.2.1, o_this.2.2.2.2.1, (f_X6_byteAt r_this_storage_bytes (p1 + (1 : Int32))), ((f_X6_byteAt r_this_storage_bytes (p1 + (1 : Int32))) >>> ((4 : Int32) &&& 31)), ((f_X6_byteAt r_this_storage_bytes (p1 + (1 : Int32))) &&& (15 : Int32)), o_this.2.2.2.2.2.2.2.2.1, o_this.2.2.2.2.2.2.2.2.2)), (a_this_registers, .inl (k_this_registers, 16, .inl r_this_registers)), (a_this_storage, oX6 a_this_storage_bytes a_this_storage_keys), (a_this_storage_bytes, .inl (k_this_storage_bytes, 2048, .inl r_this_storage_bytes))] H := hP
      have hD : va_D A [(a_this, oX3 a_this_storage a_this_status a_this_channel a_this_registers a_this_first a_this_second (o_this.1, o_this.2.1, o_this.2.2.1, o_this.2.2.2.1, o_this.2.2.2.2.1, (f_X6_byteAt r_this_storage_bytes (p1 + (1 : Int32))), ((f_X6_byteAt r_this_storage_bytes (p1 + (1 : Int32))) >>> ((4 : Int32) &&& 31)), ((f_X6_byteAt r_this_storage_bytes (p1 + (1 : Int32))) &&& (15 : Int32)), o_this.2.2.2.2.2.2.2.2.1, o_this.2.2.2.2.2.2.2.2.2)), (a_this_registers, .inl (k_this_registers, 16, .inl r_this_registers)), (a_this_storage, oX6 a_this_storage_bytes a_this_storage_keys), (a_this_storage_bytes, .inl (k_this_storage_bytes, 2048, .inl r_this_storage_bytes))] := hD
      refine pf_X3_152 (x := (f_X3_operandAt r_this_registers r_this_storage_bytes (p1 + (2 : Int32)) 0)) hx hb hown ht hK hP hD hS 0 rfl (Nat.le_of_ble_eq_true rfl) dX3_decode_72 (fun H locs hP hD hS => ?_)
      have hP : va_P D vwCl [(a_this, oX3 a_this_storage a_this_status a_this_channel a_this_registers a_this_first a_this_second (o_this.1, o_this.2.1, o_this.2.2.1, o_this.2.2.2.1, o_this.2.2.2.2.1, (f_X6_byteAt r_this_storage_bytes (p1 + (1 : Int32))), ((f_X6_byteAt r_this_storage_bytes (p1 + (1 : Int32))) >>> ((4 : Int32) &&& 31)), ((f_X6_byteAt r_this_storage_bytes (p1 + (1 : Int32))) &&& (15 : Int32)), (f_X3_operandAt r_this_registers r_this_storage_bytes (p1 + (2 : Int32)) 0), o_this.2.2.2.2.2.2.2.2.2)), (a_this_registers, .inl (k_this_registers, 16, .inl r_this_registers)), (a_this_storage, oX6 a_this_storage_bytes a_this_storage_keys), (a_this_storage_bytes, .inl (k_this_storage_bytes, 2048, .inl r_this_storage_bytes))] H := hP
      have hD : va_D A [(a_this, oX3 a_this_storage a_this_status a_this_channel a_this_registers a_this_first a_this_second (o_this.1, o_this.2.1, o_this.2.2.1, o_this.2.2.2.1, o_this.2.2.2.2.1, (f_X6_byteAt r_this_storage_bytes (p1 + (1 : Int32))), ((f_X6_byteAt r_this_storage_bytes (p1 + (1 : Int32))) >>> ((4 : Int32) &&& 31)), ((f_X6_byteAt r_this_storage_bytes (p1 + (1 : Int32))) &&& (15 : Int32)), (f_X3_operandAt r_this_registers r_this_storage_bytes (p1 + (2 : Int32)) 0), o_this.2.2.2.2.2.2.2.2.2)), (a_this_registers, .inl (k_this_registers, 16, .inl r_this_registers)), (a_this_storage, oX6 a_this_storage_bytes a_this_storage_keys), (a_this_storage_bytes, .inl (k_this_storage_bytes, 2048, .inl r_this_storage_bytes))] := hD
      refine lv_aload_n hx hb dX3_decode_75 rfl (lv_at hl 1 rfl) ?_
      refine lv_aload_n hx hb dX3_decode_76 rfl (lv_at hl 1 rfl) ?_
      refine lv_iload_n hx hb dX3_decode_77 rfl (lv_at hl 2 rfl) ?_
      refine lv_iconst (v := 4) hx hb dX3_decode_78 (by decide) ?_
      refine lv_iadd hx hb dX3_decode_79 ?_
      refine lv_iconst (v := 0) hx hb dX3_decode_80 (by decide) ?_
      refine q_Vi (rest := [.ref a_this]) (c_X3_operandAt l D a_this a_this_registers a_this_storage a_this_storage_bytes a_this_status a_this_channel a_this_first a_this_second a_this_storage_keys k_this_registers k_this_storage_bytes (o_this.1, o_this.2.1, o_this.2.2.1, o_this.2.2.2.1, o_this.2.2.2.2.1, (f_X6_byteAt r_this_storage_bytes (p1 + (1 : Int32))), ((f_X6_byteAt r_this_storage_bytes (p1 + (1 : Int32))) >>> ((4 : Int32) &&& 31)), ((f_X6_byteAt r_this_storage_bytes (p1 + (1 : Int32))) &&& (15 : Int32)), (f_X3_operandAt r_this_registers r_this_storage_bytes (p1 + (2 : Int32)) 0), o_this.2.2.2.2.2.2.2.2.2) r_this_registers r_this_storage_bytes (p1 + (4 : Int32)) 0) cv_X3_operandAt hx hb hml hown ht hN hK hA hP hD hS hl.1 (km_X3_148) ⟨Nat.le_of_ble_eq_true rfl, Nat.le_of_ble_eq_true rfl⟩ rfl rfl [0, 1, 2, 3] (by decide) rfl [0, 1] rfl (fun _ => rfl) (ci := 3) rfl rfl rfl rfl rfl (Nat.le_of_ble_eq_true rfl) dX3_decode_81 ⟨Nat.zero_le _, Nat.zero_le _⟩ (fun r u H locs hw hP hD hS => ?_)
      obtain ⟨rfl, rfl⟩ := hw
      have hP : va_P D vwCl [(a_this, oX3 a_this_storage a_this_status a_this_channel a_this_registers a_this_first a_this_second (o_this.1, o_this.2.1, o_this.2.2.1, o_this.2.2.2.1, o_this.2.2.2.2.1, (f_X6_byteAt r_this_storage_bytes (p1 + (1 : Int32))), ((f_X6_byteAt r_this_storage_bytes (p1 + (1 : Int32))) >>> ((4 : Int32) &&& 31)), ((f_X6_byteAt r_this_storage_bytes (p1 + (1 : Int32))) &&& (15 : Int32)), (f_X3_operandAt r_this_registers r_this_storage_bytes (p1 + (2 : Int32)) 0), o_this.2.2.2.2.2.2.2.2.2)), (a_this_registers, .inl (k_this_registers, 16, .inl r_this_registers)), (a_this_storage, oX6 a_this_storage_bytes a_this_storage_keys), (a_this_storage_bytes, .inl (k_this_storage_bytes, 2048, .inl r_this_storage_bytes))] H := hP
      have hD : va_D A [(a_this, oX3 a_this_storage a_this_status a_this_channel a_this_registers a_this_first a_this_second (o_this.1, o_this.2.1, o_this.2.2.1, o_this.2.2.2.1, o_this.2.2.2.2.1, (f_X6_byteAt r_this_storage_bytes (p1 + (1 : Int32))), ((f_X6_byteAt r_this_storage_bytes (p1 + (1 : Int32))) >>> ((4 : Int32) &&& 31)), ((f_X6_byteAt r_this_storage_bytes (p1 + (1 : Int32))) &&& (15 : Int32)), (f_X3_operandAt r_this_registers r_this_storage_bytes (p1 + (2 : Int32)) 0), o_this.2.2.2.2.2.2.2.2.2)), (a_this_registers, .inl (k_this_registers, 16, .inl r_this_registers)), (a_this_storage, oX6 a_this_storage_bytes a_this_storage_keys), (a_this_storage_bytes, .inl (k_this_storage_bytes, 2048, .inl r_this_storage_bytes))] := hD
      refine pf_X3_155 (x := (f_X3_operandAt r_this_registers r_this_storage_bytes (p1 + (4 : Int32)) 0)) hx hb hown ht hK hP hD hS 0 rfl (Nat.le_of_ble_eq_true rfl) dX3_decode_84 (fun H locs hP hD hS => ?_)
      have hP : va_P D vwCl [(a_this, oX3 a_this_storage a_this_status a_this_channel a_this_registers a_this_first a_this_second (o_this.1, o_this.2.1, o_this.2.2.1, o_this.2.2.2.1, o_this.2.2.2.2.1, (f_X6_byteAt r_this_storage_bytes (p1 + (1 : Int32))), ((f_X6_byteAt r_this_storage_bytes (p1 + (1 : Int32))) >>> ((4 : Int32) &&& 31)), ((f_X6_byteAt r_this_storage_bytes (p1 + (1 : Int32))) &&& (15 : Int32)), (f_X3_operandAt r_this_registers r_this_storage_bytes (p1 + (2 : Int32)) 0), (f_X3_operandAt r_this_registers r_this_storage_bytes (p1 + (4 : Int32)) 0))), (a_this_registers, .inl (k_this_registers, 16, .inl r_this_registers)), (a_this_storage, oX6 a_this_storage_bytes a_this_storage_keys), (a_this_storage_bytes, .inl (k_this_storage_bytes, 2048, .inl r_this_storage_bytes))] H := hP
      have hD : va_D A [(a_this, oX3 a_this_storage a_this_status a_this_channel a_this_registers a_this_first a_this_second (o_this.1, o_this.2.1, o_this.2.2.1, o_this.2.2.2.1, o_this.2.2.2.2.1, (f_X6_byteAt r_this_storage_bytes (p1 + (1 : Int32))), ((f_X6_byteAt r_this_storage_bytes (p1 + (1 : Int32))) >>> ((4 : Int32) &&& 31)), ((f_X6_byteAt r_this_storage_bytes (p1 + (1 : Int32))) &&& (15 : Int32)), (f_X3_operandAt r_this_registers r_this_storage_bytes (p1 + (2 : Int32)) 0), (f_X3_operandAt r_this_registers r_this_storage_bytes (p1 + (4 : Int32)) 0))), (a_this_registers, .inl (k_this_registers, 16, .inl r_this_registers)), (a_this_storage, oX6 a_this_storage_bytes a_this_storage_keys), (a_this_storage_bytes, .inl (k_this_storage_bytes, 2048, .inl r_this_storage_bytes))] := hD
      exact hQ (o_this.1, o_this.2.1, o_this.2.2.1, o_this.2.2.2.1, o_this.2.2.2.2.1, (f_X6_byteAt r_this_storage_bytes (p1 + (1 : Int32))), ((f_X6_byteAt r_this_storage_bytes (p1 + (1 : Int32))) >>> ((4 : Int32) &&& 31)), ((f_X6_byteAt r_this_storage_bytes (p1 + (1 : Int32))) &&& (15 : Int32)), (f_X3_operandAt r_this_registers r_this_storage_bytes (p1 + (2 : Int32)) 0), (f_X3_operandAt r_this_registers r_this_storage_bytes (p1 + (4 : Int32)) 0)) _ _ _ _ dX3_decode_87 hF.symm hP hD hS
    · exact absurd c_3 (by decide)
  · skip
    rw [if_pos c_2] at hF
    refine lv_iconst (v := 1) hx hb dX3_decode_46 (by decide) ?_
    refine lv_goto (tgt := 51) hx hb dX3_decode_47 (by decide) ?_
    refine lv_istore_n (lv' := [(2, .int 1), (0, .ref a_this), (1, .int p1)]) hx hb dX3_decode_51 rfl hl (by decide) rfl (fun ls hl => ?_)
    refine lv_aload_n hx hb dX3_decode_52 rfl (lv_at hl 1 rfl) ?_
    refine lv_aload_n hx hb dX3_decode_53 rfl (lv_at hl 1 rfl) ?_
    refine lv_iload_n hx hb dX3_decode_54 rfl (lv_at hl 2 rfl) ?_
    refine lv_iconst (v := 2) hx hb dX3_decode_55 (by decide) ?_
    refine lv_iadd hx hb dX3_decode_56 ?_
    refine lv_iload_n hx hb dX3_decode_57 rfl (lv_at hl 0 rfl) ?_
    refine lv_if_eq (tgt := 68) hx hb dX3_decode_58 (by decide) (fun c_6 => ?_) (fun c_6 => ?_)
    · exact absurd c_6 (by decide)
    · skip
      refine lv_aload_n hx hb dX3_decode_61 rfl (lv_at hl 1 rfl) ?_
      refine gf_X3_145 (v := .int ((f_X6_byteAt r_this_storage_bytes (p1 + (1 : Int32))) &&& (15 : Int32))) hx hb hown ht hK hP 0 rfl rfl dX3_decode_62 ?_
      refine lv_goto (tgt := 69) hx hb dX3_decode_65 (by decide) ?_
      refine q_Vi (rest := [.ref a_this]) (c_X3_operandAt l D a_this a_this_registers a_this_storage a_this_storage_bytes a_this_status a_this_channel a_this_first a_this_second a_this_storage_keys k_this_registers k_this_storage_bytes (o_this.1, o_this.2.1, o_this.2.2.1, o_this.2.2.2.1, o_this.2.2.2.2.1, (f_X6_byteAt r_this_storage_bytes (p1 + (1 : Int32))), ((f_X6_byteAt r_this_storage_bytes (p1 + (1 : Int32))) >>> ((4 : Int32) &&& 31)), ((f_X6_byteAt r_this_storage_bytes (p1 + (1 : Int32))) &&& (15 : Int32)), o_this.2.2.2.2.2.2.2.2.1, o_this.2.2.2.2.2.2.2.2.2) r_this_registers r_this_storage_bytes (p1 + (2 : Int32)) ((f_X6_byteAt r_this_storage_bytes (p1 + (1 : Int32))) &&& (15 : Int32))) cv_X3_operandAt hx hb hml hown ht hN hK hA hP hD hS hl.1 (km_X3_148) ⟨Nat.le_of_ble_eq_true rfl, Nat.le_of_ble_eq_true rfl⟩ rfl rfl [0, 1, 2, 3] (by decide) rfl [0, 1] rfl (fun _ => rfl) (ci := 3) rfl rfl rfl rfl rfl (Nat.le_of_ble_eq_true rfl) dX3_decode_69 ⟨Nat.zero_le _, Nat.zero_le _⟩ (fun r u H locs hw hP hD hS => ?_)
      obtain ⟨rfl, rfl⟩ := hw
      have hP : va_P D vwCl [(a_this, oX3 a_this_storage a_this_status a_this_channel a_this_registers a_this_first a_this_second (o_this.1, o_this.2.1, o_this.2.2.1, o_this.2.2.2.1, o_this.2.2.2.2.1, (f_X6_byteAt r_this_storage_bytes (p1 + (1 : Int32))), ((f_X6_byteAt r_this_storage_bytes (p1 + (1 : Int32))) >>> ((4 : Int32) &&& 31)), ((f_X6_byteAt r_this_storage_bytes (p1 + (1 : Int32))) &&& (15 : Int32)), o_this.2.2.2.2.2.2.2.2.1, o_this.2.2.2.2.2.2.2.2.2)), (a_this_registers, .inl (k_this_registers, 16, .inl r_this_registers)), (a_this_storage, oX6 a_this_storage_bytes a_this_storage_keys), (a_this_storage_bytes, .inl (k_this_storage_bytes, 2048, .inl r_this_storage_bytes))] H := hP
      have hD : va_D A [(a_this, oX3 a_this_storage a_this_status a_this_channel a_this_registers a_this_first a_this_second (o_this.1, o_this.2.1, o_this.2.2.1, o_this.2.2.2.1, o_this.2.2.2.2.1, (f_X6_byteAt r_this_storage_bytes (p1 + (1 : Int32))), ((f_X6_byteAt r_this_storage_bytes (p1 + (1 : Int32))) >>> ((4 : Int32) &&& 31)), ((f_X6_byteAt r_this_storage_bytes (p1 + (1 : Int32))) &&& (15 : Int32)), o_this.2.2.2.2.2.2.2.2.1, o_this.2.2.2.2.2.2.2.2.2)), (a_this_registers, .inl (k_this_registers, 16, .inl r_this_registers)), (a_this_storage, oX6 a_this_storage_bytes a_this_storage_keys), (a_this_storage_bytes, .inl (k_this_storage_bytes, 2048, .inl r_this_storage_bytes))] := hD
      refine pf_X3_152 (x := (f_X3_operandAt r_this_registers r_this_storage_bytes (p1 + (2 : Int32)) ((f_X6_byteAt r_this_storage_bytes (p1 + (1 : Int32))) &&& (15 : Int32)))) hx hb hown ht hK hP hD hS 0 rfl (Nat.le_of_ble_eq_true rfl) dX3_decode_72 (fun H locs hP hD hS => ?_)
      have hP : va_P D vwCl [(a_this, oX3 a_this_storage a_this_status a_this_channel a_this_registers a_this_first a_this_second (o_this.1, o_this.2.1, o_this.2.2.1, o_this.2.2.2.1, o_this.2.2.2.2.1, (f_X6_byteAt r_this_storage_bytes (p1 + (1 : Int32))), ((f_X6_byteAt r_this_storage_bytes (p1 + (1 : Int32))) >>> ((4 : Int32) &&& 31)), ((f_X6_byteAt r_this_storage_bytes (p1 + (1 : Int32))) &&& (15 : Int32)), (f_X3_operandAt r_this_registers r_this_storage_bytes (p1 + (2 : Int32)) ((f_X6_byteAt r_this_storage_bytes (p1 + (1 : Int32))) &&& (15 : Int32))), o_this.2.2.2.2.2.2.2.2.2)), (a_this_registers, .inl (k_this_registers, 16, .inl r_this_registers)), (a_this_storage, oX6 a_this_storage_bytes a_this_storage_keys), (a_this_storage_bytes, .inl (k_this_storage_bytes, 2048, .inl r_this_storage_bytes))] H := hP
      have hD : va_D A [(a_this, oX3 a_this_storage a_this_status a_this_channel a_this_registers a_this_first a_this_second (o_this.1, o_this.2.1, o_this.2.2.1, o_this.2.2.2.1, o_this.2.2.2.2.1, (f_X6_byteAt r_this_storage_bytes (p1 + (1 : Int32))), ((f_X6_byteAt r_this_storage_bytes (p1 + (1 : Int32))) >>> ((4 : Int32) &&& 31)), ((f_X6_byteAt r_this_storage_bytes (p1 + (1 : Int32))) &&& (15 : Int32)), (f_X3_operandAt r_this_registers r_this_storage_bytes (p1 + (2 : Int32)) ((f_X6_byteAt r_this_storage_bytes (p1 + (1 : Int32))) &&& (15 : Int32))), o_this.2.2.2.2.2.2.2.2.2)), (a_this_registers, .inl (k_this_registers, 16, .inl r_this_registers)), (a_this_storage, oX6 a_this_storage_bytes a_this_storage_keys), (a_this_storage_bytes, .inl (k_this_storage_bytes, 2048, .inl r_this_storage_bytes))] := hD
      refine lv_aload_n hx hb dX3_decode_75 rfl (lv_at hl 1 rfl) ?_
      refine lv_aload_n hx hb dX3_decode_76 rfl (lv_at hl 1 rfl) ?_
      refine lv_iload_n hx hb dX3_decode_77 rfl (lv_at hl 2 rfl) ?_
      refine lv_iconst (v := 4) hx hb dX3_decode_78 (by decide) ?_
      refine lv_iadd hx hb dX3_decode_79 ?_
      refine lv_iconst (v := 0) hx hb dX3_decode_80 (by decide) ?_
      refine q_Vi (rest := [.ref a_this]) (c_X3_operandAt l D a_this a_this_registers a_this_storage a_this_storage_bytes a_this_status a_this_channel a_this_first a_this_second a_this_storage_keys k_this_registers k_this_storage_bytes (o_this.1, o_this.2.1, o_this.2.2.1, o_this.2.2.2.1, o_this.2.2.2.2.1, (f_X6_byteAt r_this_storage_bytes (p1 + (1 : Int32))), ((f_X6_byteAt r_this_storage_bytes (p1 + (1 : Int32))) >>> ((4 : Int32) &&& 31)), ((f_X6_byteAt r_this_storage_bytes (p1 + (1 : Int32))) &&& (15 : Int32)), (f_X3_operandAt r_this_registers r_this_storage_bytes (p1 + (2 : Int32)) ((f_X6_byteAt r_this_storage_bytes (p1 + (1 : Int32))) &&& (15 : Int32))), o_this.2.2.2.2.2.2.2.2.2) r_this_registers r_this_storage_bytes (p1 + (4 : Int32)) 0) cv_X3_operandAt hx hb hml hown ht hN hK hA hP hD hS hl.1 (km_X3_148) ⟨Nat.le_of_ble_eq_true rfl, Nat.le_of_ble_eq_true rfl⟩ rfl rfl [0, 1, 2, 3] (by decide) rfl [0, 1] rfl (fun _ => rfl) (ci := 3) rfl rfl rfl rfl rfl (Nat.le_of_ble_eq_true rfl) dX3_decode_81 ⟨Nat.zero_le _, Nat.zero_le _⟩ (fun r u H locs hw hP hD hS => ?_)
      obtain ⟨rfl, rfl⟩ := hw
      have hP : va_P D vwCl [(a_this, oX3 a_this_storage a_this_status a_this_channel a_this_registers a_this_first a_this_second (o_this.1, o_this.2.1, o_this.2.2.1, o_this.2.2.2.1, o_this.2.2.2.2.1, (f_X6_byteAt r_this_storage_bytes (p1 + (1 : Int32))), ((f_X6_byteAt r_this_storage_bytes (p1 + (1 : Int32))) >>> ((4 : Int32) &&& 31)), ((f_X6_byteAt r_this_storage_bytes (p1 + (1 : Int32))) &&& (15 : Int32)), (f_X3_operandAt r_this_registers r_this_storage_bytes (p1 + (2 : Int32)) ((f_X6_byteAt r_this_storage_bytes (p1 + (1 : Int32))) &&& (15 : Int32))), o_this.2.2.2.2.2.2.2.2.2)), (a_this_registers, .inl (k_this_registers, 16, .inl r_this_registers)), (a_this_storage, oX6 a_this_storage_bytes a_this_storage_keys), (a_this_storage_bytes, .inl (k_this_storage_bytes, 2048, .inl r_this_storage_bytes))] H := hP
      have hD : va_D A [(a_this, oX3 a_this_storage a_this_status a_this_channel a_this_registers a_this_first a_this_second (o_this.1, o_this.2.1, o_this.2.2.1, o_this.2.2.2.1, o_this.2.2.2.2.1, (f_X6_byteAt r_this_storage_bytes (p1 + (1 : Int32))), ((f_X6_byteAt r_this_storage_bytes (p1 + (1 : Int32))) >>> ((4 : Int32) &&& 31)), ((f_X6_byteAt r_this_storage_bytes (p1 + (1 : Int32))) &&& (15 : Int32)), (f_X3_operandAt r_this_registers r_this_storage_bytes (p1 + (2 : Int32)) ((f_X6_byteAt r_this_storage_bytes (p1 + (1 : Int32))) &&& (15 : Int32))), o_this.2.2.2.2.2.2.2.2.2)), (a_this_registers, .inl (k_this_registers, 16, .inl r_this_registers)), (a_this_storage, oX6 a_this_storage_bytes a_this_storage_keys), (a_this_storage_bytes, .inl (k_this_storage_bytes, 2048, .inl r_this_storage_bytes))] := hD
      refine pf_X3_155 (x := (f_X3_operandAt r_this_registers r_this_storage_bytes (p1 + (4 : Int32)) 0)) hx hb hown ht hK hP hD hS 0 rfl (Nat.le_of_ble_eq_true rfl) dX3_decode_84 (fun H locs hP hD hS => ?_)
      have hP : va_P D vwCl [(a_this, oX3 a_this_storage a_this_status a_this_channel a_this_registers a_this_first a_this_second (o_this.1, o_this.2.1, o_this.2.2.1, o_this.2.2.2.1, o_this.2.2.2.2.1, (f_X6_byteAt r_this_storage_bytes (p1 + (1 : Int32))), ((f_X6_byteAt r_this_storage_bytes (p1 + (1 : Int32))) >>> ((4 : Int32) &&& 31)), ((f_X6_byteAt r_this_storage_bytes (p1 + (1 : Int32))) &&& (15 : Int32)), (f_X3_operandAt r_this_registers r_this_storage_bytes (p1 + (2 : Int32)) ((f_X6_byteAt r_this_storage_bytes (p1 + (1 : Int32))) &&& (15 : Int32))), (f_X3_operandAt r_this_registers r_this_storage_bytes (p1 + (4 : Int32)) 0))), (a_this_registers, .inl (k_this_registers, 16, .inl r_this_registers)), (a_this_storage, oX6 a_this_storage_bytes a_this_storage_keys), (a_this_storage_bytes, .inl (k_this_storage_bytes, 2048, .inl r_this_storage_bytes))] H := hP
      have hD : va_D A [(a_this, oX3 a_this_storage a_this_status a_this_channel a_this_registers a_this_first a_this_second (o_this.1, o_this.2.1, o_this.2.2.1, o_this.2.2.2.1, o_this.2.2.2.2.1, (f_X6_byteAt r_this_storage_bytes (p1 + (1 : Int32))), ((f_X6_byteAt r_this_storage_bytes (p1 + (1 : Int32))) >>> ((4 : Int32) &&& 31)), ((f_X6_byteAt r_this_storage_bytes (p1 + (1 : Int32))) &&& (15 : Int32)), (f_X3_operandAt r_this_registers r_this_storage_bytes (p1 + (2 : Int32)) ((f_X6_byteAt r_this_storage_bytes (p1 + (1 : Int32))) &&& (15 : Int32))), (f_X3_operandAt r_this_registers r_this_storage_bytes (p1 + (4 : Int32)) 0))), (a_this_registers, .inl (k_this_registers, 16, .inl r_this_registers)), (a_this_storage, oX6 a_this_storage_bytes a_this_storage_keys), (a_this_storage_bytes, .inl (k_this_storage_bytes, 2048, .inl r_this_storage_bytes))] := hD
      exact hQ (o_this.1, o_this.2.1, o_this.2.2.1, o_this.2.2.2.1, o_this.2.2.2.2.1, (f_X6_byteAt r_this_storage_bytes (p1 + (1 : Int32))), ((f_X6_byteAt r_this_storage_bytes (p1 + (1 : Int32))) >>> ((4 : Int32) &&& 31)), ((f_X6_byteAt r_this_storage_bytes (p1 + (1 : Int32))) &&& (15 : Int32)), (f_X3_operandAt r_this_registers r_this_storage_bytes (p1 + (2 : Int32)) ((f_X6_byteAt r_this_storage_bytes (p1 + (1 : Int32))) &&& (15 : Int32))), (f_X3_operandAt r_this_registers r_this_storage_bytes (p1 + (4 : Int32)) 0)) _ _ _ _ dX3_decode_87 hF.symm hP hD hS
theorem cv_X3_decode : qV yX3_decode cX3_decode 3 none 1 := ⟨kc_X3_decode, kt_X3_decode, ks_X3_decode, kn_X3, by decide, by decide +kernel⟩
def f_X3_fetchInstruction (o_this : Bool × Int32 × Int32 × Int32 × Int32 × Int32 × Int32 × Int32 × Int32 × Int32) (r_this_registers : Nat → Int32) (o_this_status : Int32 × Int32 × Int32 × Int32) (r_this_storage_bytes : Nat → Int32) : Int32 × (Bool × Int32 × Int32 × Int32 × Int32 × Int32 × Int32 × Int32 × Int32 × Int32) × (Int32 × Int32 × Int32 × Int32) := (q_let (f_X5_goTo o_this_status (o_this_status.2.2.2 + (f_X3_lengthOf (f_X6_byteAt r_this_storage_bytes o_this_status.2.2.2)))) fun w_3 => (if (o_this_status.2.2.2 - o_this_status.2.2.2 / (2 : Int32) * (2 : Int32)) = 0 then (if (f_X6_holds o_this_status.2.2.2 (f_X3_lengthOf (f_X6_byteAt r_this_storage_bytes o_this_status.2.2.2))) = true then (if (f_X3_isPrivileged (o_this.1, o_this.2.1, o_this.2.2.1, o_this.2.2.2.1, (f_X6_byteAt r_this_storage_bytes o_this_status.2.2.2), o_this.2.2.2.2.2.1, o_this.2.2.2.2.2.2.1, o_this.2.2.2.2.2.2.2.1, o_this.2.2.2.2.2.2.2.2.1, o_this.2.2.2.2.2.2.2.2.2)) = true then (if (f_X5_allows w_3 4) = true then (2, (o_this.1, o_this.2.1, o_this.2.2.1, o_this.2.2.2.1, (f_X6_byteAt r_this_storage_bytes o_this_status.2.2.2), o_this.2.2.2.2.2.1, o_this.2.2.2.2.2.2.1, o_this.2.2.2.2.2.2.2.1, o_this.2.2.2.2.2.2.2.2.1, o_this.2.2.2.2.2.2.2.2.2), w_3) else (q_let (f_X3_decode (o_this.1, o_this.2.1, o_this.2.2.1, o_this.2.2.2.1, (f_X6_byteAt r_this_storage_bytes o_this_status.2.2.2), o_this.2.2.2.2.2.1, o_this.2.2.2.2.2.2.1, o_this.2.2.2.2.2.2.2.1, o_this.2.2.2.2.2.2.2.2.1, o_this.2.2.2.2.2.2.2.2.2) r_this_registers r_this_storage_bytes o_this_status.2.2.2) fun w_12 => (0, w_12, w_3))) else (q_let (f_X3_decode (o_this.1, o_this.2.1, o_this.2.2.1, o_this.2.2.2.1, (f_X6_byteAt r_this_storage_bytes o_this_status.2.2.2), o_this.2.2.2.2.2.1, o_this.2.2.2.2.2.2.1, o_this.2.2.2.2.2.2.2.1, o_this.2.2.2.2.2.2.2.2.1, o_this.2.2.2.2.2.2.2.2.2) r_this_registers r_this_storage_bytes o_this_status.2.2.2) fun w_9 => (0, w_9, w_3))) else (5, (o_this.1, o_this.2.1, o_this.2.2.1, o_this.2.2.2.1, (f_X6_byteAt r_this_storage_bytes o_this_status.2.2.2), o_this.2.2.2.2.2.1, o_this.2.2.2.2.2.2.1, o_this.2.2.2.2.2.2.2.1, o_this.2.2.2.2.2.2.2.2.1, o_this.2.2.2.2.2.2.2.2.2), w_3)) else (6, (o_this.1, o_this.2.1, o_this.2.2.1, o_this.2.2.2.1, (f_X6_byteAt r_this_storage_bytes o_this_status.2.2.2), o_this.2.2.2.2.2.1, o_this.2.2.2.2.2.2.1, o_this.2.2.2.2.2.2.2.1, o_this.2.2.2.2.2.2.2.2.1, o_this.2.2.2.2.2.2.2.2.2), w_3)))
set_option linter.all false in
set_option maxHeartbeats 4000000 in
set_option maxRecDepth 100000 in
theorem c_X3_fetchInstruction (l : Launch) (D : va_G) (a_this a_this_registers a_this_status a_this_storage a_this_storage_bytes a_this_channel a_this_first a_this_second a_this_storage_keys : Nat) (k_this_registers k_this_storage_bytes : ClassId) (o_this : Bool × Int32 × Int32 × Int32 × Int32 × Int32 × Int32 × Int32 × Int32 × Int32) (r_this_registers : Nat → Int32) (o_this_status : Int32 × Int32 × Int32 × Int32) (r_this_storage_bytes : Nat → Int32) : CtI l yX3_fetchInstruction cX3_fetchInstruction 3 (some .int) { frames := 4, cells := 0, slots := 0, locals := 89 } D [.ref a_this] [(a_this, oX3 a_this_storage a_this_status a_this_channel a_this_registers a_this_first a_this_second o_this), (a_this_registers, .inl (k_this_registers, 16, .inl r_this_registers)), (a_this_status, oX5 o_this_status), (a_this_storage, oX6 a_this_storage_bytes a_this_storage_keys), (a_this_storage_bytes, .inl (k_this_storage_bytes, 2048, .inl r_this_storage_bytes))] [(k_this_registers, .int), (k_this_storage_bytes, .byte)] (fun (r : Int32) (u : Int32 × (Bool × Int32 × Int32 × Int32 × Int32 × Int32 × Int32 × Int32 × Int32 × Int32) × (Int32 × Int32 × Int32 × Int32)) => f_X3_fetchInstruction o_this r_this_registers o_this_status r_this_storage_bytes = u ∧ r = u.1) (fun u => [(a_this, oX3 a_this_storage a_this_status a_this_channel a_this_registers a_this_first a_this_second u.2.1), (a_this_registers, .inl (k_this_registers, 16, .inl r_this_registers)), (a_this_status, oX5 u.2.2), (a_this_storage, oX6 a_this_storage_bytes a_this_storage_keys), (a_this_storage_bytes, .inl (k_this_storage_bytes, 2048, .inl r_this_storage_bytes))]) := by
  refine CtI.of (by decide) (Nat.le_of_ble_eq_true rfl) ?_
  intro p e s m below meth c A ls Q hE hP hD hS hl hQ
  obtain ⟨hx, hb, hml, hown, ht, hN, hK, hA⟩ := hE
  have hown : s.vm.findClass RX3 = some m.cls := hown
  have hl : lv_has ls 3 [(0, .ref a_this)] := hl
  obtain ⟨F, hF⟩ : ∃ F, f_X3_fetchInstruction o_this r_this_registers o_this_status r_this_storage_bytes = F := ⟨_, rfl⟩
  rw [hF] at hQ
  unfold f_X3_fetchInstruction at hF
  refine lv_aload_n hx hb dX3_fetchInstruction_0 rfl (lv_at hl 0 rfl) ?_
  refine gf_X3_21 (v := .ref a_this_status) hx hb hown ht hK hP 0 rfl rfl dX3_fetchInstruction_1 ?_
  refine gf_X3_116 (v := .int o_this_status.2.2.2) hx hb hown ht hK hP 2 rfl rfl dX3_fetchInstruction_4 ?_
  refine lv_istore_n (lv' := [(1, .int o_this_status.2.2.2), (0, .ref a_this)]) hx hb dX3_fetchInstruction_7 rfl hl (by decide) rfl (fun ls hl => ?_)
  refine lv_aload_n hx hb dX3_fetchInstruction_8 rfl (lv_at hl 1 rfl) ?_
  refine lv_aload_n hx hb dX3_fetchInstruction_9 rfl (lv_at hl 1 rfl) ?_
  refine gf_X3_12 (v := .ref a_this_storage) hx hb hown ht hK hP 0 rfl rfl dX3_fetchInstruction_10 ?_
  refine lv_iload_n hx hb dX3_fetchInstruction_13 rfl (lv_at hl 0 rfl) ?_
  refine q_Vi (rest := [.ref a_this]) (c_X6_byteAt l D a_this_storage a_this_storage_bytes a_this_storage_keys k_this_storage_bytes r_this_storage_bytes o_this_status.2.2.2) cv_X6_byteAt hx hb hml hown ht hN hK hA hP hD hS hl.1 (km_X3_119) ⟨Nat.le_of_ble_eq_true rfl, Nat.le_of_ble_eq_true rfl⟩ rfl rfl [3, 4] (by decide) rfl [1] rfl (fun _ => rfl) (ci := 6) rfl rfl rfl rfl rfl (Nat.le_of_ble_eq_true rfl) dX3_fetchInstruction_14 ⟨Nat.zero_le _, Nat.zero_le _⟩ (fun r u H locs hw hP hD hS => ?_)
  obtain ⟨rfl, rfl⟩ := hw
  have hP : va_P D vwCl [(a_this, oX3 a_this_storage a_this_status a_this_channel a_this_registers a_this_first a_this_second o_this), (a_this_registers, .inl (k_this_registers, 16, .inl r_this_registers)), (a_this_status, oX5 o_this_status), (a_this_storage, oX6 a_this_storage_bytes a_this_storage_keys), (a_this_storage_bytes, .inl (k_this_storage_bytes, 2048, .inl r_this_storage_bytes))] H := hP
  have hD : va_D A [(a_this, oX3 a_this_storage a_this_status a_this_channel a_this_registers a_this_first a_this_second o_this), (a_this_registers, .inl (k_this_registers, 16, .inl r_this_registers)), (a_this_status, oX5 o_this_status), (a_this_storage, oX6 a_this_storage_bytes a_this_storage_keys), (a_this_storage_bytes, .inl (k_this_storage_bytes, 2048, .inl r_this_storage_bytes))] := hD
  refine pf_X3_61 (x := (f_X6_byteAt r_this_storage_bytes o_this_status.2.2.2)) hx hb hown ht hK hP hD hS 0 rfl (Nat.le_of_ble_eq_true rfl) dX3_fetchInstruction_17 (fun H locs hP hD hS => ?_)
  have hP : va_P D vwCl [(a_this, oX3 a_this_storage a_this_status a_this_channel a_this_registers a_this_first a_this_second (o_this.1, o_this.2.1, o_this.2.2.1, o_this.2.2.2.1, (f_X6_byteAt r_this_storage_bytes o_this_status.2.2.2), o_this.2.2.2.2.2.1, o_this.2.2.2.2.2.2.1, o_this.2.2.2.2.2.2.2.1, o_this.2.2.2.2.2.2.2.2.1, o_this.2.2.2.2.2.2.2.2.2)), (a_this_registers, .inl (k_this_registers, 16, .inl r_this_registers)), (a_this_status, oX5 o_this_status), (a_this_storage, oX6 a_this_storage_bytes a_this_storage_keys), (a_this_storage_bytes, .inl (k_this_storage_bytes, 2048, .inl r_this_storage_bytes))] H := hP
  have hD : va_D A [(a_this, oX3 a_this_storage a_this_status a_this_channel a_this_registers a_this_first a_this_second (o_this.1, o_this.2.1, o_this.2.2.1, o_this.2.2.2.1, (f_X6_byteAt r_this_storage_bytes o_this_status.2.2.2), o_this.2.2.2.2.2.1, o_this.2.2.2.2.2.2.1, o_this.2.2.2.2.2.2.2.1, o_this.2.2.2.2.2.2.2.2.1, o_this.2.2.2.2.2.2.2.2.2)), (a_this_registers, .inl (k_this_registers, 16, .inl r_this_registers)), (a_this_status, oX5 o_this_status), (a_this_storage, oX6 a_this_storage_bytes a_this_storage_keys), (a_this_storage_bytes, .inl (k_this_storage_bytes, 2048, .inl r_this_storage_bytes))] := hD
  refine lv_aload_n hx hb dX3_fetchInstruction_20 rfl (lv_at hl 1 rfl) ?_
  refine gf_X3_61 (v := .int (f_X6_byteAt r_this_storage_bytes o_this_status.2.2.2)) hx hb hown ht hK hP 0 rfl rfl dX3_fetchInstruction_21 ?_
  refine q_Si (rest := []) (c_X3_lengthOf l D (f_X6_byteAt r_this_storage_bytes o_this_status.2.2.2)) cv_X3_lengthOf hx hb hml hown ht hN hK hA hP hD hS hl.1 (km_X3_122) ⟨Nat.le_of_ble_eq_true rfl, Nat.le_of_ble_eq_true rfl⟩ rfl rfl [] (by decide) rfl [] rfl (fun _ => rfl) rfl rfl (Nat.le_of_ble_eq_true rfl) dX3_fetchInstruction_24 ⟨Nat.zero_le _, Nat.zero_le _⟩ (fun r u H locs hw hP hD hS => ?_)
  obtain ⟨rfl, rfl⟩ := hw
  have hP : va_P D vwCl [(a_this, oX3 a_this_storage a_this_status a_this_channel a_this_registers a_this_first a_this_second (o_this.1, o_this.2.1, o_this.2.2.1, o_this.2.2.2.1, (f_X6_byteAt r_this_storage_bytes o_this_status.2.2.2), o_this.2.2.2.2.2.1, o_this.2.2.2.2.2.2.1, o_this.2.2.2.2.2.2.2.1, o_this.2.2.2.2.2.2.2.2.1, o_this.2.2.2.2.2.2.2.2.2)), (a_this_registers, .inl (k_this_registers, 16, .inl r_this_registers)), (a_this_status, oX5 o_this_status), (a_this_storage, oX6 a_this_storage_bytes a_this_storage_keys), (a_this_storage_bytes, .inl (k_this_storage_bytes, 2048, .inl r_this_storage_bytes))] H := hP
  have hD : va_D A [(a_this, oX3 a_this_storage a_this_status a_this_channel a_this_registers a_this_first a_this_second (o_this.1, o_this.2.1, o_this.2.2.1, o_this.2.2.2.1, (f_X6_byteAt r_this_storage_bytes o_this_status.2.2.2), o_this.2.2.2.2.2.1, o_this.2.2.2.2.2.2.1, o_this.2.2.2.2.2.2.2.1, o_this.2.2.2.2.2.2.2.2.1, o_this.2.2.2.2.2.2.2.2.2)), (a_this_registers, .inl (k_this_registers, 16, .inl r_this_registers)), (a_this_status, oX5 o_this_status), (a_this_storage, oX6 a_this_storage_bytes a_this_storage_keys), (a_this_storage_bytes, .inl (k_this_storage_bytes, 2048, .inl r_this_storage_bytes))] := hD
  refine lv_istore_n (lv' := [(2, .int (f_X3_lengthOf (f_X6_byteAt r_this_storage_bytes o_this_status.2.2.2))), (1, .int o_this_status.2.2.2), (0, .ref a_this)]) hx hb dX3_fetchInstruction_27 rfl hl (by decide) rfl (fun ls hl => ?_)
  refine lv_aload_n hx hb dX3_fetchInstruction_28 rfl (lv_at hl 2 rfl) ?_
  refine gf_X3_21 (v := .ref a_this_status) hx hb hown ht hK hP 0 rfl rfl dX3_fetchInstruction_29 ?_
  refine lv_iload_n hx hb dX3_fetchInstruction_32 rfl (lv_at hl 1 rfl) ?_
  refine lv_iload_n hx hb dX3_fetchInstruction_33 rfl (lv_at hl 0 rfl) ?_
  refine lv_iadd hx hb dX3_fetchInstruction_34 ?_
  refine q_Vv (rest := []) (c_X5_goTo l D a_this_status o_this_status (o_this_status.2.2.2 + (f_X3_lengthOf (f_X6_byteAt r_this_storage_bytes o_this_status.2.2.2)))) cv_X5_goTo hx hb hml hown ht hN hK hA hP hD hS hl.1 (km_X3_125) ⟨Nat.le_of_ble_eq_true rfl, Nat.le_of_ble_eq_true rfl⟩ rfl rfl [2] (by decide) rfl [] rfl (fun _ => rfl) (ci := 5) rfl rfl rfl rfl rfl (Nat.le_of_ble_eq_true rfl) dX3_fetchInstruction_35 ⟨Nat.zero_le _, Nat.zero_le _⟩ (fun w_3 H locs hw hP hD hS => ?_)
  have hP : va_P D vwCl [(a_this, oX3 a_this_storage a_this_status a_this_channel a_this_registers a_this_first a_this_second (o_this.1, o_this.2.1, o_this.2.2.1, o_this.2.2.2.1, (f_X6_byteAt r_this_storage_bytes o_this_status.2.2.2), o_this.2.2.2.2.2.1, o_this.2.2.2.2.2.2.1, o_this.2.2.2.2.2.2.2.1, o_this.2.2.2.2.2.2.2.2.1, o_this.2.2.2.2.2.2.2.2.2)), (a_this_registers, .inl (k_this_registers, 16, .inl r_this_registers)), (a_this_status, oX5 w_3), (a_this_storage, oX6 a_this_storage_bytes a_this_storage_keys), (a_this_storage_bytes, .inl (k_this_storage_bytes, 2048, .inl r_this_storage_bytes))] H := hP
  have hD : va_D A [(a_this, oX3 a_this_storage a_this_status a_this_channel a_this_registers a_this_first a_this_second (o_this.1, o_this.2.1, o_this.2.2.1, o_this.2.2.2.1, (f_X6_byteAt r_this_storage_bytes o_this_status.2.2.2), o_this.2.2.2.2.2.1, o_this.2.2.2.2.2.2.1, o_this.2.2.2.2.2.2.2.1, o_this.2.2.2.2.2.2.2.2.1, o_this.2.2.2.2.2.2.2.2.2)), (a_this_registers, .inl (k_this_registers, 16, .inl r_this_registers)), (a_this_status, oX5 w_3), (a_this_storage, oX6 a_this_storage_bytes a_this_storage_keys), (a_this_storage_bytes, .inl (k_this_storage_bytes, 2048, .inl r_this_storage_bytes))] := hD
  rw [q_let_of hw] at hF
  refine lv_iload_n hx hb dX3_fetchInstruction_38 rfl (lv_at hl 1 rfl) ?_
  refine lv_iconst (v := 2) hx hb dX3_fetchInstruction_39 (by decide) ?_
  refine lv_irem hx hb dX3_fetchInstruction_40 (by decide) ?_
  refine lv_if_eq (tgt := 47) hx hb dX3_fetchInstruction_41 (by decide) (fun c_4 => ?_) (fun c_4 => ?_)
  · skip
    rw [if_pos c_4] at hF
    refine lv_iload_n hx hb dX3_fetchInstruction_47 rfl (lv_at hl 1 rfl) ?_
    refine lv_iload_n hx hb dX3_fetchInstruction_48 rfl (lv_at hl 0 rfl) ?_
    refine q_Si (rest := []) (c_X6_holds l D o_this_status.2.2.2 (f_X3_lengthOf (f_X6_byteAt r_this_storage_bytes o_this_status.2.2.2))) cv_X6_holds hx hb hml hown ht hN hK hA hP hD hS hl.1 (km_X3_129) ⟨Nat.le_of_ble_eq_true rfl, Nat.le_of_ble_eq_true rfl⟩ rfl rfl [] (by decide) rfl [] rfl (fun _ => rfl) rfl rfl (Nat.le_of_ble_eq_true rfl) dX3_fetchInstruction_49 ⟨Nat.zero_le _, Nat.zero_le _⟩ (fun r u H locs hw hP hD hS => ?_)
    obtain ⟨rfl, rfl⟩ := hw
    have hP : va_P D vwCl [(a_this, oX3 a_this_storage a_this_status a_this_channel a_this_registers a_this_first a_this_second (o_this.1, o_this.2.1, o_this.2.2.1, o_this.2.2.2.1, (f_X6_byteAt r_this_storage_bytes o_this_status.2.2.2), o_this.2.2.2.2.2.1, o_this.2.2.2.2.2.2.1, o_this.2.2.2.2.2.2.2.1, o_this.2.2.2.2.2.2.2.2.1, o_this.2.2.2.2.2.2.2.2.2)), (a_this_registers, .inl (k_this_registers, 16, .inl r_this_registers)), (a_this_status, oX5 w_3), (a_this_storage, oX6 a_this_storage_bytes a_this_storage_keys), (a_this_storage_bytes, .inl (k_this_storage_bytes, 2048, .inl r_this_storage_bytes))] H := hP
    have hD : va_D A [(a_this, oX3 a_this_storage a_this_status a_this_channel a_this_registers a_this_first a_this_second (o_this.1, o_this.2.1, o_this.2.2.1, o_this.2.2.2.1, (f_X6_byteAt r_this_storage_bytes o_this_status.2.2.2), o_this.2.2.2.2.2.1, o_this.2.2.2.2.2.2.1, o_this.2.2.2.2.2.2.2.1, o_this.2.2.2.2.2.2.2.2.1, o_this.2.2.2.2.2.2.2.2.2)), (a_this_registers, .inl (k_this_registers, 16, .inl r_this_registers)), (a_this_status, oX5 w_3), (a_this_storage, oX6 a_this_storage_bytes a_this_storage_keys), (a_this_storage_bytes, .inl (k_this_storage_bytes, 2048, .inl r_this_storage_bytes))] := hD
    refine lv_if_ne (tgt := 57) hx hb dX3_fetchInstruction_52 (by decide) (fun c_6 => ?_) (fun c_6 => ?_)
    · have c_6 := (bI_ne0 _).mp c_6
      rw [if_pos c_6] at hF
      refine lv_aload_n hx hb dX3_fetchInstruction_57 rfl (lv_at hl 2 rfl) ?_
      refine q_Vi (rest := []) (c_X3_isPrivileged l D a_this a_this_storage a_this_status a_this_channel a_this_registers a_this_first a_this_second (o_this.1, o_this.2.1, o_this.2.2.1, o_this.2.2.2.1, (f_X6_byteAt r_this_storage_bytes o_this_status.2.2.2), o_this.2.2.2.2.2.1, o_this.2.2.2.2.2.2.1, o_this.2.2.2.2.2.2.2.1, o_this.2.2.2.2.2.2.2.2.1, o_this.2.2.2.2.2.2.2.2.2)) cv_X3_isPrivileged hx hb hml hown ht hN hK hA hP hD hS hl.1 (km_X3_133) ⟨Nat.le_of_ble_eq_true rfl, Nat.le_of_ble_eq_true rfl⟩ rfl rfl [0] (by decide) rfl [] rfl (fun _ => rfl) (ci := 3) rfl rfl rfl rfl rfl (Nat.le_of_ble_eq_true rfl) dX3_fetchInstruction_58 ⟨Nat.zero_le _, Nat.zero_le _⟩ (fun r u H locs hw hP hD hS => ?_)
      obtain ⟨rfl, rfl⟩ := hw
      have hP : va_P D vwCl [(a_this, oX3 a_this_storage a_this_status a_this_channel a_this_registers a_this_first a_this_second (o_this.1, o_this.2.1, o_this.2.2.1, o_this.2.2.2.1, (f_X6_byteAt r_this_storage_bytes o_this_status.2.2.2), o_this.2.2.2.2.2.1, o_this.2.2.2.2.2.2.1, o_this.2.2.2.2.2.2.2.1, o_this.2.2.2.2.2.2.2.2.1, o_this.2.2.2.2.2.2.2.2.2)), (a_this_registers, .inl (k_this_registers, 16, .inl r_this_registers)), (a_this_status, oX5 w_3), (a_this_storage, oX6 a_this_storage_bytes a_this_storage_keys), (a_this_storage_bytes, .inl (k_this_storage_bytes, 2048, .inl r_this_storage_bytes))] H := hP
      have hD : va_D A [(a_this, oX3 a_this_storage a_this_status a_this_channel a_this_registers a_this_first a_this_second (o_this.1, o_this.2.1, o_this.2.2.1, o_this.2.2.2.1, (f_X6_byteAt r_this_storage_bytes o_this_status.2.2.2), o_this.2.2.2.2.2.1, o_this.2.2.2.2.2.2.1, o_this.2.2.2.2.2.2.2.1, o_this.2.2.2.2.2.2.2.2.1, o_this.2.2.2.2.2.2.2.2.2)), (a_this_registers, .inl (k_this_registers, 16, .inl r_this_registers)), (a_this_status, oX5 w_3), (a_this_storage, oX6 a_this_storage_bytes a_this_storage_keys), (a_this_storage_bytes, .inl (k_this_storage_bytes, 2048, .inl r_this_storage_bytes))] := hD
      refine lv_if_eq (tgt := 77) hx hb dX3_fetchInstruction_61 (by decide) (fun c_8 => ?_) (fun c_8 => ?_)
      · have c_8 : ¬ (f_X3_isPrivileged (o_this.1, o_this.2.1, o_this.2.2.1, o_this.2.2.2.1, (f_X6_byteAt r_this_storage_bytes o_this_status.2.2.2), o_this.2.2.2.2.2.1, o_this.2.2.2.2.2.2.1, o_this.2.2.2.2.2.2.2.1, o_this.2.2.2.2.2.2.2.2.1, o_this.2.2.2.2.2.2.2.2.2)) = true := by rw [(bI_eq0 _).mp c_8]; decide
        rw [if_neg c_8] at hF
        refine lv_aload_n hx hb dX3_fetchInstruction_77 rfl (lv_at hl 2 rfl) ?_
        refine lv_iload_n hx hb dX3_fetchInstruction_78 rfl (lv_at hl 1 rfl) ?_
        refine q_Vv (rest := []) (c_X3_decode l D a_this a_this_registers a_this_storage a_this_storage_bytes a_this_status a_this_channel a_this_first a_this_second a_this_storage_keys k_this_registers k_this_storage_bytes (o_this.1, o_this.2.1, o_this.2.2.1, o_this.2.2.2.1, (f_X6_byteAt r_this_storage_bytes o_this_status.2.2.2), o_this.2.2.2.2.2.1, o_this.2.2.2.2.2.2.1, o_this.2.2.2.2.2.2.2.1, o_this.2.2.2.2.2.2.2.2.1, o_this.2.2.2.2.2.2.2.2.2) r_this_registers r_this_storage_bytes o_this_status.2.2.2) cv_X3_decode hx hb hml hown ht hN hK hA hP hD hS hl.1 (km_X3_136) ⟨Nat.le_of_ble_eq_true rfl, Nat.le_of_ble_eq_true rfl⟩ rfl rfl [0, 1, 3, 4] (by decide) rfl [0, 1] rfl (fun _ => rfl) (ci := 3) rfl rfl rfl rfl rfl (Nat.le_of_ble_eq_true rfl) dX3_fetchInstruction_79 ⟨Nat.zero_le _, Nat.zero_le _⟩ (fun w_9 H locs hw hP hD hS => ?_)
        have hP : va_P D vwCl [(a_this, oX3 a_this_storage a_this_status a_this_channel a_this_registers a_this_first a_this_second w_9), (a_this_registers, .inl (k_this_registers, 16, .inl r_this_registers)), (a_this_status, oX5 w_3), (a_this_storage, oX6 a_this_storage_bytes a_this_storage_keys), (a_this_storage_bytes, .inl (k_this_storage_bytes, 2048, .inl r_this_storage_bytes))] H := hP
        have hD : va_D A [(a_this, oX3 a_this_storage a_this_status a_this_channel a_this_registers a_this_first a_this_second w_9), (a_this_registers, .inl (k_this_registers, 16, .inl r_this_registers)), (a_this_status, oX5 w_3), (a_this_storage, oX6 a_this_storage_bytes a_this_storage_keys), (a_this_storage_bytes, .inl (k_this_storage_bytes, 2048, .inl r_this_storage_bytes))] := hD
        rw [q_let_of hw] at hF
        refine lv_iconst (v := 0) hx hb dX3_fetchInstruction_82 (by decide) ?_
        exact hQ 0 (0, w_9, w_3) _ _ _ _ dX3_fetchInstruction_83 ⟨hF.symm, rfl⟩ hP hD hS
      · have c_8 := (bI_ne0 _).mp c_8
        rw [if_pos c_8] at hF
        refine lv_aload_n hx hb dX3_fetchInstruction_64 rfl (lv_at hl 2 rfl) ?_
        refine gf_X3_21 (v := .ref a_this_status) hx hb hown ht hK hP 0 rfl rfl dX3_fetchInstruction_65 ?_
        refine lv_iconst (v := 4) hx hb dX3_fetchInstruction_68 (by decide) ?_
        refine q_Vi (rest := []) (c_X5_allows l D a_this_status w_3 4) cv_X5_allows hx hb hml hown ht hN hK hA hP hD hS hl.1 (km_X3_90) ⟨Nat.le_of_ble_eq_true rfl, Nat.le_of_ble_eq_true rfl⟩ rfl rfl [2] (by decide) rfl [] rfl (fun _ => rfl) (ci := 5) rfl rfl rfl rfl rfl (Nat.le_of_ble_eq_true rfl) dX3_fetchInstruction_69 ⟨Nat.zero_le _, Nat.zero_le _⟩ (fun r u H locs hw hP hD hS => ?_)
        obtain ⟨rfl, rfl⟩ := hw
        have hP : va_P D vwCl [(a_this, oX3 a_this_storage a_this_status a_this_channel a_this_registers a_this_first a_this_second (o_this.1, o_this.2.1, o_this.2.2.1, o_this.2.2.2.1, (f_X6_byteAt r_this_storage_bytes o_this_status.2.2.2), o_this.2.2.2.2.2.1, o_this.2.2.2.2.2.2.1, o_this.2.2.2.2.2.2.2.1, o_this.2.2.2.2.2.2.2.2.1, o_this.2.2.2.2.2.2.2.2.2)), (a_this_registers, .inl (k_this_registers, 16, .inl r_this_registers)), (a_this_status, oX5 w_3), (a_this_storage, oX6 a_this_storage_bytes a_this_storage_keys), (a_this_storage_bytes, .inl (k_this_storage_bytes, 2048, .inl r_this_storage_bytes))] H := hP
        have hD : va_D A [(a_this, oX3 a_this_storage a_this_status a_this_channel a_this_registers a_this_first a_this_second (o_this.1, o_this.2.1, o_this.2.2.1, o_this.2.2.2.1, (f_X6_byteAt r_this_storage_bytes o_this_status.2.2.2), o_this.2.2.2.2.2.1, o_this.2.2.2.2.2.2.1, o_this.2.2.2.2.2.2.2.1, o_this.2.2.2.2.2.2.2.2.1, o_this.2.2.2.2.2.2.2.2.2)), (a_this_registers, .inl (k_this_registers, 16, .inl r_this_registers)), (a_this_status, oX5 w_3), (a_this_storage, oX6 a_this_storage_bytes a_this_storage_keys), (a_this_storage_bytes, .inl (k_this_storage_bytes, 2048, .inl r_this_storage_bytes))] := hD
        refine lv_if_eq (tgt := 77) hx hb dX3_fetchInstruction_72 (by decide) (fun c_11 => ?_) (fun c_11 => ?_)
        · have c_11 : ¬ (f_X5_allows w_3 4) = true := by rw [(bI_eq0 _).mp c_11]; decide
          rw [if_neg c_11] at hF
          refine lv_aload_n hx hb dX3_fetchInstruction_77 rfl (lv_at hl 2 rfl) ?_
          refine lv_iload_n hx hb dX3_fetchInstruction_78 rfl (lv_at hl 1 rfl) ?_
          refine q_Vv (rest := []) (c_X3_decode l D a_this a_this_registers a_this_storage a_this_storage_bytes a_this_status a_this_channel a_this_first a_this_second a_this_storage_keys k_this_registers k_this_storage_bytes (o_this.1, o_this.2.1, o_this.2.2.1, o_this.2.2.2.1, (f_X6_byteAt r_this_storage_bytes o_this_status.2.2.2), o_this.2.2.2.2.2.1, o_this.2.2.2.2.2.2.1, o_this.2.2.2.2.2.2.2.1, o_this.2.2.2.2.2.2.2.2.1, o_this.2.2.2.2.2.2.2.2.2) r_this_registers r_this_storage_bytes o_this_status.2.2.2) cv_X3_decode hx hb hml hown ht hN hK hA hP hD hS hl.1 (km_X3_136) ⟨Nat.le_of_ble_eq_true rfl, Nat.le_of_ble_eq_true rfl⟩ rfl rfl [0, 1, 3, 4] (by decide) rfl [0, 1] rfl (fun _ => rfl) (ci := 3) rfl rfl rfl rfl rfl (Nat.le_of_ble_eq_true rfl) dX3_fetchInstruction_79 ⟨Nat.zero_le _, Nat.zero_le _⟩ (fun w_12 H locs hw hP hD hS => ?_)
          have hP : va_P D vwCl [(a_this, oX3 a_this_storage a_this_status a_this_channel a_this_registers a_this_first a_this_second w_12), (a_this_registers, .inl (k_this_registers, 16, .inl r_this_registers)), (a_this_status, oX5 w_3), (a_this_storage, oX6 a_this_storage_bytes a_this_storage_keys), (a_this_storage_bytes, .inl (k_this_storage_bytes, 2048, .inl r_this_storage_bytes))] H := hP
          have hD : va_D A [(a_this, oX3 a_this_storage a_this_status a_this_channel a_this_registers a_this_first a_this_second w_12), (a_this_registers, .inl (k_this_registers, 16, .inl r_this_registers)), (a_this_status, oX5 w_3), (a_this_storage, oX6 a_this_storage_bytes a_this_storage_keys), (a_this_storage_bytes, .inl (k_this_storage_bytes, 2048, .inl r_this_storage_bytes))] := hD
          rw [q_let_of hw] at hF
          refine lv_iconst (v := 0) hx hb dX3_fetchInstruction_82 (by decide) ?_
          exact hQ 0 (0, w_12, w_3) _ _ _ _ dX3_fetchInstruction_83 ⟨hF.symm, rfl⟩ hP hD hS
        · have c_11 := (bI_ne0 _).mp c_11
          rw [if_pos c_11] at hF
          refine lv_iconst (v := 2) hx hb dX3_fetchInstruction_75 (by decide) ?_
          exact hQ 2 (2, (o_this.1, o_this.2.1, o_this.2.2.1, o_this.2.2.2.1, (f_X6_byteAt r_this_storage_bytes o_this_status.2.2.2), o_this.2.2.2.2.2.1, o_this.2.2.2.2.2.2.1, o_this.2.2.2.2.2.2.2.1, o_this.2.2.2.2.2.2.2.2.1, o_this.2.2.2.2.2.2.2.2.2), w_3) _ _ _ _ dX3_fetchInstruction_76 ⟨hF.symm, rfl⟩ hP hD hS
    · have c_6 : ¬ (f_X6_holds o_this_status.2.2.2 (f_X3_lengthOf (f_X6_byteAt r_this_storage_bytes o_this_status.2.2.2))) = true := by rw [(bI_eq0 _).mp c_6]; decide
      rw [if_neg c_6] at hF
      refine lv_iconst (v := 5) hx hb dX3_fetchInstruction_55 (by decide) ?_
      exact hQ 5 (5, (o_this.1, o_this.2.1, o_this.2.2.1, o_this.2.2.2.1, (f_X6_byteAt r_this_storage_bytes o_this_status.2.2.2), o_this.2.2.2.2.2.1, o_this.2.2.2.2.2.2.1, o_this.2.2.2.2.2.2.2.1, o_this.2.2.2.2.2.2.2.2.1, o_this.2.2.2.2.2.2.2.2.2), w_3) _ _ _ _ dX3_fetchInstruction_56 ⟨hF.symm, rfl⟩ hP hD hS
  · skip
    rw [if_neg c_4] at hF
    refine lv_bipush (v := 6) hx hb dX3_fetchInstruction_44 (by decide) ?_
    exact hQ 6 (6, (o_this.1, o_this.2.1, o_this.2.2.1, o_this.2.2.2.1, (f_X6_byteAt r_this_storage_bytes o_this_status.2.2.2), o_this.2.2.2.2.2.1, o_this.2.2.2.2.2.2.1, o_this.2.2.2.2.2.2.2.1, o_this.2.2.2.2.2.2.2.2.1, o_this.2.2.2.2.2.2.2.2.2), w_3) _ _ _ _ dX3_fetchInstruction_46 ⟨hF.symm, rfl⟩ hP hD hS
theorem cv_X3_fetchInstruction : qV yX3_fetchInstruction cX3_fetchInstruction 3 (some .int) 0 := ⟨kc_X3_fetchInstruction, kt_X3_fetchInstruction, ks_X3_fetchInstruction, kn_X3, by decide, by decide +kernel⟩
def f_X3_readFault (p1 : Int32) (p2 : Int32) (p3 : Int32) : Int32 := (if (p1 &&& (p3 - (1 : Int32))) = 0 then (if (f_X6_holds p1 p2) = true then 0 else 5) else 6)
set_option linter.all false in
set_option maxHeartbeats 4000000 in
set_option maxRecDepth 100000 in
theorem c_X3_readFault (l : Launch) (D : va_G) (p1 : Int32) (p2 : Int32) (p3 : Int32) : CtI l yX3_readFault cX3_readFault 3 (some .int) { frames := 1, cells := 0, slots := 0, locals := 21 } D [.int p1, .int p2, .int p3] [] [] (fun (r : Int32) (u : Int32) => f_X3_readFault p1 p2 p3 = u ∧ r = u) (fun u => []) := by
  refine CtI.of (by decide) (Nat.le_of_ble_eq_true rfl) ?_
  intro p e s m below meth c A ls Q hE hP hD hS hl hQ
  obtain ⟨hx, hb, hml, hown, ht, hN, hK, hA⟩ := hE
  have hown : s.vm.findClass RX3 = some m.cls := hown
  have hl : lv_has ls 3 [(0, .int p1), (1, .int p2), (2, .int p3)] := hl
  obtain ⟨F, hF⟩ : ∃ F, f_X3_readFault p1 p2 p3 = F := ⟨_, rfl⟩
  rw [hF] at hQ
  unfold f_X3_readFault at hF
  refine lv_iload_n hx hb dX3_readFault_0 rfl (lv_at hl 0 rfl) ?_
  refine lv_iload_n hx hb dX3_readFault_1 rfl (lv_at hl 2 rfl) ?_
  refine lv_iconst (v := 1) hx hb dX3_readFault_2 (by decide) ?_
  refine lv_isub hx hb dX3_readFault_3 ?_
  refine lv_iand hx hb dX3_readFault_4 ?_
  refine lv_if_eq (tgt := 11) hx hb dX3_readFault_5 (by decide) (fun c_1 => ?_) (fun c_1 => ?_)
  · skip
    rw [if_pos c_1] at hF
    refine lv_iload_n hx hb dX3_readFault_11 rfl (lv_at hl 0 rfl) ?_
    refine lv_iload_n hx hb dX3_readFault_12 rfl (lv_at hl 1 rfl) ?_
    refine q_Si (rest := []) (c_X6_holds l D p1 p2) cv_X6_holds hx hb hml hown ht hN hK hA hP hD hS hl.1 (km_X3_129) ⟨Nat.le_of_ble_eq_true rfl, Nat.le_of_ble_eq_true rfl⟩ rfl rfl [] (by decide) rfl [] rfl (fun _ => rfl) rfl rfl (Nat.le_of_ble_eq_true rfl) dX3_readFault_13 ⟨Nat.zero_le _, Nat.zero_le _⟩ (fun r u H locs hw hP hD hS => ?_)
    obtain ⟨rfl, rfl⟩ := hw
    have hP : va_P D vwCl [] H := hP
    have hD : va_D A [] := hD
    refine lv_if_eq (tgt := 23) hx hb dX3_readFault_16 (by decide) (fun c_3 => ?_) (fun c_3 => ?_)
    · have c_3 : ¬ (f_X6_holds p1 p2) = true := by rw [(bI_eq0 _).mp c_3]; decide
      rw [if_neg c_3] at hF
      refine lv_iconst (v := 5) hx hb dX3_readFault_23 (by decide) ?_
      exact hQ 5 5 _ _ _ _ dX3_readFault_24 ⟨hF.symm, rfl⟩ hP hD hS
    · have c_3 := (bI_ne0 _).mp c_3
      rw [if_pos c_3] at hF
      refine lv_iconst (v := 0) hx hb dX3_readFault_19 (by decide) ?_
      refine lv_goto (tgt := 24) hx hb dX3_readFault_20 (by decide) ?_
      exact hQ 0 0 _ _ _ _ dX3_readFault_24 ⟨hF.symm, rfl⟩ hP hD hS
  · skip
    rw [if_neg c_1] at hF
    refine lv_bipush (v := 6) hx hb dX3_readFault_8 (by decide) ?_
    exact hQ 6 6 _ _ _ _ dX3_readFault_10 ⟨hF.symm, rfl⟩ hP hD hS
theorem cv_X3_readFault : qS yX3_readFault cX3_readFault 3 (some .int) 3 := ⟨kc_X3_readFault, kt_X3_readFault, kn_X3, by decide, by decide +kernel⟩
def f_X3_storeFault (o_this_status : Int32 × Int32 × Int32 × Int32) (r_this_storage_keys : Nat → Int32) (p1 : Int32) (p2 : Int32) (p3 : Int32) : Int32 := (if (f_X3_readFault p1 p2 p3) = 0 then (if (f_X6_isOpen r_this_storage_keys p1 p2 o_this_status.2.1) = true then 0 else 4) else (f_X3_readFault p1 p2 p3))
set_option linter.all false in
set_option maxHeartbeats 4000000 in
set_option maxRecDepth 100000 in
theorem c_X3_storeFault (l : Launch) (D : va_G) (a_this a_this_status a_this_storage a_this_storage_keys a_this_channel a_this_registers a_this_first a_this_second a_this_storage_bytes : Nat) (k_this_storage_keys : ClassId) (o_this : Bool × Int32 × Int32 × Int32 × Int32 × Int32 × Int32 × Int32 × Int32 × Int32) (o_this_status : Int32 × Int32 × Int32 × Int32) (r_this_storage_keys : Nat → Int32) (p1 : Int32) (p2 : Int32) (p3 : Int32) : CtI l yX3_storeFault cX3_storeFault 5 (some .int) { frames := 2, cells := 0, slots := 0, locals := 48 } D [.ref a_this, .int p1, .int p2, .int p3] [(a_this, oX3 a_this_storage a_this_status a_this_channel a_this_registers a_this_first a_this_second o_this), (a_this_status, oX5 o_this_status), (a_this_storage, oX6 a_this_storage_bytes a_this_storage_keys), (a_this_storage_keys, .inl (k_this_storage_keys, 8, .inl r_this_storage_keys))] [(k_this_storage_keys, .int)] (fun (r : Int32) (u : Int32) => f_X3_storeFault o_this_status r_this_storage_keys p1 p2 p3 = u ∧ r = u) (fun u => [(a_this, oX3 a_this_storage a_this_status a_this_channel a_this_registers a_this_first a_this_second o_this), (a_this_status, oX5 o_this_status), (a_this_storage, oX6 a_this_storage_bytes a_this_storage_keys), (a_this_storage_keys, .inl (k_this_storage_keys, 8, .inl r_this_storage_keys))]) := by
  refine CtI.of (by decide) (Nat.le_of_ble_eq_true rfl) ?_
  intro p e s m below meth c A ls Q hE hP hD hS hl hQ
  obtain ⟨hx, hb, hml, hown, ht, hN, hK, hA⟩ := hE
  have hown : s.vm.findClass RX3 = some m.cls := hown
  have hl : lv_has ls 5 [(0, .ref a_this), (1, .int p1), (2, .int p2), (3, .int p3)] := hl
  obtain ⟨F, hF⟩ : ∃ F, f_X3_storeFault o_this_status r_this_storage_keys p1 p2 p3 = F := ⟨_, rfl⟩
  rw [hF] at hQ
  unfold f_X3_storeFault at hF
  refine lv_iload_n hx hb dX3_storeFault_0 rfl (lv_at hl 1 rfl) ?_
  refine lv_iload_n hx hb dX3_storeFault_1 rfl (lv_at hl 2 rfl) ?_
  refine lv_iload_n hx hb dX3_storeFault_2 rfl (lv_at hl 3 rfl) ?_
  refine q_Si (rest := []) (c_X3_readFault l D p1 p2 p3) cv_X3_readFault hx hb hml hown ht hN hK hA hP hD hS hl.1 (km_X3_165) ⟨Nat.le_of_ble_eq_true rfl, Nat.le_of_ble_eq_true rfl⟩ rfl rfl [] (by decide) rfl [] rfl (fun _ => rfl) rfl rfl (Nat.le_of_ble_eq_true rfl) dX3_storeFault_3 ⟨Nat.zero_le _, Nat.zero_le _⟩ (fun r u H locs hw hP hD hS => ?_)
  obtain ⟨rfl, rfl⟩ := hw
  have hP : va_P D vwCl [(a_this, oX3 a_this_storage a_this_status a_this_channel a_this_registers a_this_first a_this_second o_this), (a_this_status, oX5 o_this_status), (a_this_storage, oX6 a_this_storage_bytes a_this_storage_keys), (a_this_storage_keys, .inl (k_this_storage_keys, 8, .inl r_this_storage_keys))] H := hP
  have hD : va_D A [(a_this, oX3 a_this_storage a_this_status a_this_channel a_this_registers a_this_first a_this_second o_this), (a_this_status, oX5 o_this_status), (a_this_storage, oX6 a_this_storage_bytes a_this_storage_keys), (a_this_storage_keys, .inl (k_this_storage_keys, 8, .inl r_this_storage_keys))] := hD
  refine lv_istore (lv' := [(4, .int (f_X3_readFault p1 p2 p3)), (0, .ref a_this), (1, .int p1), (2, .int p2), (3, .int p3)]) hx hb dX3_storeFault_6 hl (by decide) rfl (fun ls hl => ?_)
  refine lv_iload hx hb dX3_storeFault_8 (lv_at hl 0 rfl) ?_
  refine lv_if_eq (tgt := 16) hx hb dX3_storeFault_10 (by decide) (fun c_2 => ?_) (fun c_2 => ?_)
  · skip
    rw [if_pos c_2] at hF
    refine lv_aload_n hx hb dX3_storeFault_16 rfl (lv_at hl 1 rfl) ?_
    refine gf_X3_12 (v := .ref a_this_storage) hx hb hown ht hK hP 0 rfl rfl dX3_storeFault_17 ?_
    refine lv_iload_n hx hb dX3_storeFault_20 rfl (lv_at hl 2 rfl) ?_
    refine lv_iload_n hx hb dX3_storeFault_21 rfl (lv_at hl 3 rfl) ?_
    refine lv_aload_n hx hb dX3_storeFault_22 rfl (lv_at hl 1 rfl) ?_
    refine gf_X3_21 (v := .ref a_this_status) hx hb hown ht hK hP 0 rfl rfl dX3_storeFault_23 ?_
    refine gf_X3_169 (v := .int o_this_status.2.1) hx hb hown ht hK hP 1 rfl rfl dX3_storeFault_26 ?_
    refine q_Vi (rest := []) (c_X6_isOpen l D a_this_storage a_this_storage_keys a_this_storage_bytes k_this_storage_keys r_this_storage_keys p1 p2 o_this_status.2.1) cv_X6_isOpen hx hb hml hown ht hN hK hA hP hD hS hl.1 (km_X3_172) ⟨Nat.le_of_ble_eq_true rfl, Nat.le_of_ble_eq_true rfl⟩ rfl rfl [2, 3] (by decide) rfl [0] rfl (fun _ => rfl) (ci := 6) rfl rfl rfl rfl rfl (Nat.le_of_ble_eq_true rfl) dX3_storeFault_29 ⟨Nat.zero_le _, Nat.zero_le _⟩ (fun r u H locs hw hP hD hS => ?_)
    obtain ⟨rfl, rfl⟩ := hw
    have hP : va_P D vwCl [(a_this, oX3 a_this_storage a_this_status a_this_channel a_this_registers a_this_first a_this_second o_this), (a_this_status, oX5 o_this_status), (a_this_storage, oX6 a_this_storage_bytes a_this_storage_keys), (a_this_storage_keys, .inl (k_this_storage_keys, 8, .inl r_this_storage_keys))] H := hP
    have hD : va_D A [(a_this, oX3 a_this_storage a_this_status a_this_channel a_this_registers a_this_first a_this_second o_this), (a_this_status, oX5 o_this_status), (a_this_storage, oX6 a_this_storage_bytes a_this_storage_keys), (a_this_storage_keys, .inl (k_this_storage_keys, 8, .inl r_this_storage_keys))] := hD
    refine lv_if_eq (tgt := 39) hx hb dX3_storeFault_32 (by decide) (fun c_4 => ?_) (fun c_4 => ?_)
    · have c_4 : ¬ (f_X6_isOpen r_this_storage_keys p1 p2 o_this_status.2.1) = true := by rw [(bI_eq0 _).mp c_4]; decide
      rw [if_neg c_4] at hF
      refine lv_iconst (v := 4) hx hb dX3_storeFault_39 (by decide) ?_
      exact hQ 4 4 _ _ _ _ dX3_storeFault_40 ⟨hF.symm, rfl⟩ hP hD hS
    · have c_4 := (bI_ne0 _).mp c_4
      rw [if_pos c_4] at hF
      refine lv_iconst (v := 0) hx hb dX3_storeFault_35 (by decide) ?_
      refine lv_goto (tgt := 40) hx hb dX3_storeFault_36 (by decide) ?_
      exact hQ 0 0 _ _ _ _ dX3_storeFault_40 ⟨hF.symm, rfl⟩ hP hD hS
  · skip
    rw [if_neg c_2] at hF
    refine lv_iload hx hb dX3_storeFault_13 (lv_at hl 0 rfl) ?_
    exact hQ (f_X3_readFault p1 p2 p3) (f_X3_readFault p1 p2 p3) _ _ _ _ dX3_storeFault_15 ⟨hF.symm, rfl⟩ hP hD hS
theorem cv_X3_storeFault : qV yX3_storeFault cX3_storeFault 5 (some .int) 3 := ⟨kc_X3_storeFault, kt_X3_storeFault, ks_X3_storeFault, kn_X3, by decide, by decide +kernel⟩
def f_X3_linkToRegister (o_this : Bool × Int32 × Int32 × Int32 × Int32 × Int32 × Int32 × Int32 × Int32 × Int32) (r_this_registers : Nat → Int32) (o_this_status : Int32 × Int32 × Int32 × Int32) : Int32 × (Nat → Int32) × (Int32 × Int32 × Int32 × Int32) := (q_let (f_X3_putRegister r_this_registers o_this.2.2.2.2.2.2.1 o_this_status.2.2.2) fun w_2 => (if o_this.2.2.2.2.2.2.2.1 = 0 then (0, w_2, o_this_status) else (q_let (f_X5_goTo o_this_status (f_X3_register r_this_registers o_this.2.2.2.2.2.2.2.1)) fun w_4 => (0, w_2, w_4))))
set_option linter.all false in
set_option maxHeartbeats 4000000 in
set_option maxRecDepth 100000 in
theorem c_X3_linkToRegister (l : Launch) (D : va_G) (a_this a_this_registers a_this_status a_this_storage a_this_channel a_this_first a_this_second : Nat) (k_this_registers : ClassId) (o_this : Bool × Int32 × Int32 × Int32 × Int32 × Int32 × Int32 × Int32 × Int32 × Int32) (r_this_registers : Nat → Int32) (o_this_status : Int32 × Int32 × Int32 × Int32) : CtI l yX3_linkToRegister cX3_linkToRegister 2 (some .int) { frames := 1, cells := 0, slots := 0, locals := 22 } D [.ref a_this] [(a_this, oX3 a_this_storage a_this_status a_this_channel a_this_registers a_this_first a_this_second o_this), (a_this_registers, .inl (k_this_registers, 16, .inl r_this_registers)), (a_this_status, oX5 o_this_status)] [(k_this_registers, .int)] (fun (r : Int32) (u : Int32 × (Nat → Int32) × (Int32 × Int32 × Int32 × Int32)) => f_X3_linkToRegister o_this r_this_registers o_this_status = u ∧ r = u.1) (fun u => [(a_this, oX3 a_this_storage a_this_status a_this_channel a_this_registers a_this_first a_this_second o_this), (a_this_registers, .inl (k_this_registers, 16, .inl u.2.1)), (a_this_status, oX5 u.2.2)]) := by
  refine CtI.of (by decide) (Nat.le_of_ble_eq_true rfl) ?_
  intro p e s m below meth c A ls Q hE hP hD hS hl hQ
  obtain ⟨hx, hb, hml, hown, ht, hN, hK, hA⟩ := hE
  have hown : s.vm.findClass RX3 = some m.cls := hown
  have hl : lv_has ls 2 [(0, .ref a_this)] := hl
  obtain ⟨F, hF⟩ : ∃ F, f_X3_linkToRegister o_this r_this_registers o_this_status = F := ⟨_, rfl⟩
  rw [hF] at hQ
  unfold f_X3_linkToRegister at hF
  refine lv_aload_n hx hb dX3_linkToRegister_0 rfl (lv_at hl 0 rfl) ?_
  refine lv_aload_n hx hb dX3_linkToRegister_1 rfl (lv_at hl 0 rfl) ?_
  refine gf_X3_145 (v := .int o_this.2.2.2.2.2.2.2.1) hx hb hown ht hK hP 0 rfl rfl dX3_linkToRegister_2 ?_
  refine q_Vi (rest := []) (c_X3_register l D a_this a_this_registers a_this_storage a_this_status a_this_channel a_this_first a_this_second k_this_registers o_this r_this_registers o_this.2.2.2.2.2.2.2.1) cv_X3_register hx hb hml hown ht hN hK hA hP hD hS hl.1 (km_X3_161) ⟨Nat.le_of_ble_eq_true rfl, Nat.le_of_ble_eq_true rfl⟩ rfl rfl [0, 1] (by decide) rfl [0] rfl (fun _ => rfl) (ci := 3) rfl rfl rfl rfl rfl (Nat.le_of_ble_eq_true rfl) dX3_linkToRegister_5 ⟨Nat.zero_le _, Nat.zero_le _⟩ (fun r u H locs hw hP hD hS => ?_)
  obtain ⟨rfl, rfl⟩ := hw
  have hP : va_P D vwCl [(a_this, oX3 a_this_storage a_this_status a_this_channel a_this_registers a_this_first a_this_second o_this), (a_this_registers, .inl (k_this_registers, 16, .inl r_this_registers)), (a_this_status, oX5 o_this_status)] H := hP
  have hD : va_D A [(a_this, oX3 a_this_storage a_this_status a_this_channel a_this_registers a_this_first a_this_second o_this), (a_this_registers, .inl (k_this_registers, 16, .inl r_this_registers)), (a_this_status, oX5 o_this_status)] := hD
  refine lv_istore_n (lv' := [(1, .int (f_X3_register r_this_registers o_this.2.2.2.2.2.2.2.1)), (0, .ref a_this)]) hx hb dX3_linkToRegister_8 rfl hl (by decide) rfl (fun ls hl => ?_)
  refine lv_aload_n hx hb dX3_linkToRegister_9 rfl (lv_at hl 1 rfl) ?_
  refine lv_aload_n hx hb dX3_linkToRegister_10 rfl (lv_at hl 1 rfl) ?_
  refine gf_X3_142 (v := .int o_this.2.2.2.2.2.2.1) hx hb hown ht hK hP 0 rfl rfl dX3_linkToRegister_11 ?_
  refine lv_aload_n hx hb dX3_linkToRegister_14 rfl (lv_at hl 1 rfl) ?_
  refine gf_X3_21 (v := .ref a_this_status) hx hb hown ht hK hP 0 rfl rfl dX3_linkToRegister_15 ?_
  refine gf_X3_116 (v := .int o_this_status.2.2.2) hx hb hown ht hK hP 2 rfl rfl dX3_linkToRegister_18 ?_
  refine q_Vv (rest := []) (c_X3_putRegister l D a_this a_this_registers a_this_storage a_this_status a_this_channel a_this_first a_this_second k_this_registers o_this r_this_registers o_this.2.2.2.2.2.2.1 o_this_status.2.2.2) cv_X3_putRegister hx hb hml hown ht hN hK hA hP hD hS hl.1 (km_X3_206) ⟨Nat.le_of_ble_eq_true rfl, Nat.le_of_ble_eq_true rfl⟩ rfl rfl [0, 1] (by decide) rfl [0] rfl (fun _ => rfl) (ci := 3) rfl rfl rfl rfl rfl (Nat.le_of_ble_eq_true rfl) dX3_linkToRegister_21 ⟨Nat.zero_le _, Nat.zero_le _⟩ (fun w_2 H locs hw hP hD hS => ?_)
  have hP : va_P D vwCl [(a_this, oX3 a_this_storage a_this_status a_this_channel a_this_registers a_this_first a_this_second o_this), (a_this_registers, .inl (k_this_registers, 16, .inl w_2)), (a_this_status, oX5 o_this_status)] H := hP
  have hD : va_D A [(a_this, oX3 a_this_storage a_this_status a_this_channel a_this_registers a_this_first a_this_second o_this), (a_this_registers, .inl (k_this_registers, 16, .inl w_2)), (a_this_status, oX5 o_this_status)] := hD
  rw [q_let_of hw] at hF
  refine lv_aload_n hx hb dX3_linkToRegister_24 rfl (lv_at hl 1 rfl) ?_
  refine gf_X3_145 (v := .int o_this.2.2.2.2.2.2.2.1) hx hb hown ht hK hP 0 rfl rfl dX3_linkToRegister_25 ?_
  refine lv_if_eq (tgt := 39) hx hb dX3_linkToRegister_28 (by decide) (fun c_3 => ?_) (fun c_3 => ?_)
  · skip
    rw [if_pos c_3] at hF
    refine lv_iconst (v := 0) hx hb dX3_linkToRegister_39 (by decide) ?_
    exact hQ 0 (0, w_2, o_this_status) _ _ _ _ dX3_linkToRegister_40 ⟨hF.symm, rfl⟩ hP hD hS
  · skip
    rw [if_neg c_3] at hF
    refine lv_aload_n hx hb dX3_linkToRegister_31 rfl (lv_at hl 1 rfl) ?_
    refine gf_X3_21 (v := .ref a_this_status) hx hb hown ht hK hP 0 rfl rfl dX3_linkToRegister_32 ?_
    refine lv_iload_n hx hb dX3_linkToRegister_35 rfl (lv_at hl 0 rfl) ?_
    refine q_Vv (rest := []) (c_X5_goTo l D a_this_status o_this_status (f_X3_register r_this_registers o_this.2.2.2.2.2.2.2.1)) cv_X5_goTo hx hb hml hown ht hN hK hA hP hD hS hl.1 (km_X3_125) ⟨Nat.le_of_ble_eq_true rfl, Nat.le_of_ble_eq_true rfl⟩ rfl rfl [2] (by decide) rfl [] rfl (fun _ => rfl) (ci := 5) rfl rfl rfl rfl rfl (Nat.le_of_ble_eq_true rfl) dX3_linkToRegister_36 ⟨Nat.zero_le _, Nat.zero_le _⟩ (fun w_4 H locs hw hP hD hS => ?_)
    have hP : va_P D vwCl [(a_this, oX3 a_this_storage a_this_status a_this_channel a_this_registers a_this_first a_this_second o_this), (a_this_registers, .inl (k_this_registers, 16, .inl w_2)), (a_this_status, oX5 w_4)] H := hP
    have hD : va_D A [(a_this, oX3 a_this_storage a_this_status a_this_channel a_this_registers a_this_first a_this_second o_this), (a_this_registers, .inl (k_this_registers, 16, .inl w_2)), (a_this_status, oX5 w_4)] := hD
    rw [q_let_of hw] at hF
    refine lv_iconst (v := 0) hx hb dX3_linkToRegister_39 (by decide) ?_
    exact hQ 0 (0, w_2, w_4) _ _ _ _ dX3_linkToRegister_40 ⟨hF.symm, rfl⟩ hP hD hS
theorem cv_X3_linkToRegister : qV yX3_linkToRegister cX3_linkToRegister 2 (some .int) 0 := ⟨kc_X3_linkToRegister, kt_X3_linkToRegister, ks_X3_linkToRegister, kn_X3, by decide, by decide +kernel⟩
def f_X3_branchIfAsked (o_this : Bool × Int32 × Int32 × Int32 × Int32 × Int32 × Int32 × Int32 × Int32 × Int32) (o_this_status : Int32 × Int32 × Int32 × Int32) (p1 : Int32) : Int32 × (Int32 × Int32 × Int32 × Int32) := (if (o_this.2.2.2.2.2.2.1 &&& ((8 : Int32) >>> (o_this_status.2.2.1 &&& 31))) = 0 then (0, o_this_status) else (q_let (f_X5_goTo o_this_status p1) fun w_2 => (0, w_2)))
set_option linter.all false in
set_option maxHeartbeats 4000000 in
set_option maxRecDepth 100000 in
theorem c_X3_branchIfAsked (l : Launch) (D : va_G) (a_this a_this_status a_this_storage a_this_channel a_this_registers a_this_first a_this_second : Nat) (o_this : Bool × Int32 × Int32 × Int32 × Int32 × Int32 × Int32 × Int32 × Int32 × Int32) (o_this_status : Int32 × Int32 × Int32 × Int32) (p1 : Int32) : CtI l yX3_branchIfAsked cX3_branchIfAsked 2 (some .int) { frames := 1, cells := 0, slots := 0, locals := 21 } D [.ref a_this, .int p1] [(a_this, oX3 a_this_storage a_this_status a_this_channel a_this_registers a_this_first a_this_second o_this), (a_this_status, oX5 o_this_status)] [] (fun (r : Int32) (u : Int32 × (Int32 × Int32 × Int32 × Int32)) => f_X3_branchIfAsked o_this o_this_status p1 = u ∧ r = u.1) (fun u => [(a_this, oX3 a_this_storage a_this_status a_this_channel a_this_registers a_this_first a_this_second o_this), (a_this_status, oX5 u.2)]) := by
  refine CtI.of (by decide) (Nat.le_of_ble_eq_true rfl) ?_
  intro p e s m below meth c A ls Q hE hP hD hS hl hQ
  obtain ⟨hx, hb, hml, hown, ht, hN, hK, hA⟩ := hE
  have hown : s.vm.findClass RX3 = some m.cls := hown
  have hl : lv_has ls 2 [(0, .ref a_this), (1, .int p1)] := hl
  obtain ⟨F, hF⟩ : ∃ F, f_X3_branchIfAsked o_this o_this_status p1 = F := ⟨_, rfl⟩
  rw [hF] at hQ
  unfold f_X3_branchIfAsked at hF
  refine lv_aload_n hx hb dX3_branchIfAsked_0 rfl (lv_at hl 0 rfl) ?_
  refine gf_X3_142 (v := .int o_this.2.2.2.2.2.2.1) hx hb hown ht hK hP 0 rfl rfl dX3_branchIfAsked_1 ?_
  refine lv_bipush (v := 8) hx hb dX3_branchIfAsked_4 (by decide) ?_
  refine lv_aload_n hx hb dX3_branchIfAsked_6 rfl (lv_at hl 0 rfl) ?_
  refine gf_X3_21 (v := .ref a_this_status) hx hb hown ht hK hP 0 rfl rfl dX3_branchIfAsked_7 ?_
  refine gf_X3_209 (v := .int o_this_status.2.2.1) hx hb hown ht hK hP 1 rfl rfl dX3_branchIfAsked_10 ?_
  refine lv_ishr hx hb dX3_branchIfAsked_13 ?_
  refine lv_iand hx hb dX3_branchIfAsked_14 ?_
  refine lv_if_eq (tgt := 26) hx hb dX3_branchIfAsked_15 (by decide) (fun c_1 => ?_) (fun c_1 => ?_)
  · skip
    rw [if_pos c_1] at hF
    refine lv_iconst (v := 0) hx hb dX3_branchIfAsked_26 (by decide) ?_
    exact hQ 0 (0, o_this_status) _ _ _ _ dX3_branchIfAsked_27 ⟨hF.symm, rfl⟩ hP hD hS
  · skip
    rw [if_neg c_1] at hF
    refine lv_aload_n hx hb dX3_branchIfAsked_18 rfl (lv_at hl 0 rfl) ?_
    refine gf_X3_21 (v := .ref a_this_status) hx hb hown ht hK hP 0 rfl rfl dX3_branchIfAsked_19 ?_
    refine lv_iload_n hx hb dX3_branchIfAsked_22 rfl (lv_at hl 1 rfl) ?_
    refine q_Vv (rest := []) (c_X5_goTo l D a_this_status o_this_status p1) cv_X5_goTo hx hb hml hown ht hN hK hA hP hD hS hl.1 (km_X3_125) ⟨Nat.le_of_ble_eq_true rfl, Nat.le_of_ble_eq_true rfl⟩ rfl rfl [1] (by decide) rfl [] rfl (fun _ => rfl) (ci := 5) rfl rfl rfl rfl rfl (Nat.le_of_ble_eq_true rfl) dX3_branchIfAsked_23 ⟨Nat.zero_le _, Nat.zero_le _⟩ (fun w_2 H locs hw hP hD hS => ?_)
    have hP : va_P D vwCl [(a_this, oX3 a_this_storage a_this_status a_this_channel a_this_registers a_this_first a_this_second o_this), (a_this_status, oX5 w_2)] H := hP
    have hD : va_D A [(a_this, oX3 a_this_storage a_this_status a_this_channel a_this_registers a_this_first a_this_second o_this), (a_this_status, oX5 w_2)] := hD
    rw [q_let_of hw] at hF
    refine lv_iconst (v := 0) hx hb dX3_branchIfAsked_26 (by decide) ?_
    exact hQ 0 (0, w_2) _ _ _ _ dX3_branchIfAsked_27 ⟨hF.symm, rfl⟩ hP hD hS
theorem cv_X3_branchIfAsked : qV yX3_branchIfAsked cX3_branchIfAsked 2 (some .int) 1 := ⟨kc_X3_branchIfAsked, kt_X3_branchIfAsked, ks_X3_branchIfAsked, kn_X3, by decide, by decide +kernel⟩
def f_X3_blockInRegister (o_this : Bool × Int32 × Int32 × Int32 × Int32 × Int32 × Int32 × Int32 × Int32 × Int32) (r_this_registers : Nat → Int32) : Int32 := (((f_X3_register r_this_registers o_this.2.2.2.2.2.2.2.1) &&& (2047 : Int32)) >>> ((8 : Int32) &&& 31))
set_option linter.all false in
set_option maxHeartbeats 4000000 in
set_option maxRecDepth 100000 in
theorem c_X3_blockInRegister (l : Launch) (D : va_G) (a_this a_this_registers a_this_storage a_this_status a_this_channel a_this_first a_this_second : Nat) (k_this_registers : ClassId) (o_this : Bool × Int32 × Int32 × Int32 × Int32 × Int32 × Int32 × Int32 × Int32 × Int32) (r_this_registers : Nat → Int32) : CtI l yX3_blockInRegister cX3_blockInRegister 1 (some .int) { frames := 1, cells := 0, slots := 0, locals := 21 } D [.ref a_this] [(a_this, oX3 a_this_storage a_this_status a_this_channel a_this_registers a_this_first a_this_second o_this), (a_this_registers, .inl (k_this_registers, 16, .inl r_this_registers))] [(k_this_registers, .int)] (fun (r : Int32) (u : Int32) => f_X3_blockInRegister o_this r_this_registers = u ∧ r = u) (fun u => [(a_this, oX3 a_this_storage a_this_status a_this_channel a_this_registers a_this_first a_this_second o_this), (a_this_registers, .inl (k_this_registers, 16, .inl r_this_registers))]) := by
  refine CtI.of (by decide) (Nat.le_of_ble_eq_true rfl) ?_
  intro p e s m below meth c A ls Q hE hP hD hS hl hQ
  obtain ⟨hx, hb, hml, hown, ht, hN, hK, hA⟩ := hE
  have hown : s.vm.findClass RX3 = some m.cls := hown
  have hl : lv_has ls 1 [(0, .ref a_this)] := hl
  obtain ⟨F, hF⟩ : ∃ F, f_X3_blockInRegister o_this r_this_registers = F := ⟨_, rfl⟩
  rw [hF] at hQ
  unfold f_X3_blockInRegister at hF
  refine lv_aload_n hx hb dX3_blockInRegister_0 rfl (lv_at hl 0 rfl) ?_
  refine lv_aload_n hx hb dX3_blockInRegister_1 rfl (lv_at hl 0 rfl) ?_
  refine gf_X3_145 (v := .int o_this.2.2.2.2.2.2.2.1) hx hb hown ht hK hP 0 rfl rfl dX3_blockInRegister_2 ?_
  refine q_Vi (rest := []) (c_X3_register l D a_this a_this_registers a_this_storage a_this_status a_this_channel a_this_first a_this_second k_this_registers o_this r_this_registers o_this.2.2.2.2.2.2.2.1) cv_X3_register hx hb hml hown ht hN hK hA hP hD hS hl.1 (km_X3_161) ⟨Nat.le_of_ble_eq_true rfl, Nat.le_of_ble_eq_true rfl⟩ rfl rfl [0, 1] (by decide) rfl [0] rfl (fun _ => rfl) (ci := 3) rfl rfl rfl rfl rfl (Nat.le_of_ble_eq_true rfl) dX3_blockInRegister_5 ⟨Nat.zero_le _, Nat.zero_le _⟩ (fun r u H locs hw hP hD hS => ?_)
  obtain ⟨rfl, rfl⟩ := hw
  have hP : va_P D vwCl [(a_this, oX3 a_this_storage a_this_status a_this_channel a_this_registers a_this_first a_this_second o_this), (a_this_registers, .inl (k_this_registers, 16, .inl r_this_registers))] H := hP
  have hD : va_D A [(a_this, oX3 a_this_storage a_this_status a_this_channel a_this_registers a_this_first a_this_second o_this), (a_this_registers, .inl (k_this_registers, 16, .inl r_this_registers))] := hD
  refine lv_sipush (v := 2047) hx hb dX3_blockInRegister_8 (by decide) ?_
  refine lv_iand hx hb dX3_blockInRegister_11 ?_
  refine lv_bipush (v := 8) hx hb dX3_blockInRegister_12 (by decide) ?_
  refine lv_ishr hx hb dX3_blockInRegister_14 ?_
  exact hQ (((f_X3_register r_this_registers o_this.2.2.2.2.2.2.2.1) &&& (2047 : Int32)) >>> ((8 : Int32) &&& 31)) (((f_X3_register r_this_registers o_this.2.2.2.2.2.2.2.1) &&& (2047 : Int32)) >>> ((8 : Int32) &&& 31)) _ _ _ _ dX3_blockInRegister_15 ⟨hF.symm, rfl⟩ hP hD hS
theorem cv_X3_blockInRegister : qV yX3_blockInRegister cX3_blockInRegister 1 (some .int) 0 := ⟨kc_X3_blockInRegister, kt_X3_blockInRegister, ks_X3_blockInRegister, kn_X3, by decide, by decide +kernel⟩
def f_X3_putBlockKey (o_this : Bool × Int32 × Int32 × Int32 × Int32 × Int32 × Int32 × Int32 × Int32 × Int32) (r_this_registers : Nat → Int32) (r_this_storage_keys : Nat → Int32) : Int32 × (Nat → Int32) := (q_let (f_X6_putKey r_this_storage_keys (f_X3_blockInRegister o_this r_this_registers) ((f_X3_register r_this_registers o_this.2.2.2.2.2.2.1) >>> ((4 : Int32) &&& 31))) fun w_3 => (0, w_3))
set_option linter.all false in
set_option maxHeartbeats 4000000 in
set_option maxRecDepth 100000 in
theorem c_X3_putBlockKey (l : Launch) (D : va_G) (a_this a_this_registers a_this_storage a_this_storage_keys a_this_status a_this_channel a_this_first a_this_second a_this_storage_bytes : Nat) (k_this_registers k_this_storage_keys : ClassId) (o_this : Bool × Int32 × Int32 × Int32 × Int32 × Int32 × Int32 × Int32 × Int32 × Int32) (r_this_registers : Nat → Int32) (r_this_storage_keys : Nat → Int32) : CtI l yX3_putBlockKey cX3_putBlockKey 1 (some .int) { frames := 2, cells := 0, slots := 0, locals := 41 } D [.ref a_this] [(a_this, oX3 a_this_storage a_this_status a_this_channel a_this_registers a_this_first a_this_second o_this), (a_this_registers, .inl (k_this_registers, 16, .inl r_this_registers)), (a_this_storage, oX6 a_this_storage_bytes a_this_storage_keys), (a_this_storage_keys, .inl (k_this_storage_keys, 8, .inl r_this_storage_keys))] [(k_this_registers, .int), (k_this_storage_keys, .int)] (fun (r : Int32) (u : Int32 × (Nat → Int32)) => f_X3_putBlockKey o_this r_this_registers r_this_storage_keys = u ∧ r = u.1) (fun u => [(a_this, oX3 a_this_storage a_this_status a_this_channel a_this_registers a_this_first a_this_second o_this), (a_this_registers, .inl (k_this_registers, 16, .inl r_this_registers)), (a_this_storage, oX6 a_this_storage_bytes a_this_storage_keys), (a_this_storage_keys, .inl (k_this_storage_keys, 8, .inl u.2))]) := by
  refine CtI.of (by decide) (Nat.le_of_ble_eq_true rfl) ?_
  intro p e s m below meth c A ls Q hE hP hD hS hl hQ
  obtain ⟨hx, hb, hml, hown, ht, hN, hK, hA⟩ := hE
  have hown : s.vm.findClass RX3 = some m.cls := hown
  have hl : lv_has ls 1 [(0, .ref a_this)] := hl
  obtain ⟨F, hF⟩ : ∃ F, f_X3_putBlockKey o_this r_this_registers r_this_storage_keys = F := ⟨_, rfl⟩
  rw [hF] at hQ
  unfold f_X3_putBlockKey at hF
  refine lv_aload_n hx hb dX3_putBlockKey_0 rfl (lv_at hl 0 rfl) ?_
  refine gf_X3_12 (v := .ref a_this_storage) hx hb hown ht hK hP 0 rfl rfl dX3_putBlockKey_1 ?_
  refine lv_aload_n hx hb dX3_putBlockKey_4 rfl (lv_at hl 0 rfl) ?_
  refine q_Vi (rest := [.ref a_this_storage]) (c_X3_blockInRegister l D a_this a_this_registers a_this_storage a_this_status a_this_channel a_this_first a_this_second k_this_registers o_this r_this_registers) cv_X3_blockInRegister hx hb hml hown ht hN hK hA hP hD hS hl.1 (km_X3_212) ⟨Nat.le_of_ble_eq_true rfl, Nat.le_of_ble_eq_true rfl⟩ rfl rfl [0, 1] (by decide) rfl [0] rfl (fun _ => rfl) (ci := 3) rfl rfl rfl rfl rfl (Nat.le_of_ble_eq_true rfl) dX3_putBlockKey_5 ⟨Nat.zero_le _, Nat.zero_le _⟩ (fun r u H locs hw hP hD hS => ?_)
  obtain ⟨rfl, rfl⟩ := hw
  have hP : va_P D vwCl [(a_this, oX3 a_this_storage a_this_status a_this_channel a_this_registers a_this_first a_this_second o_this), (a_this_registers, .inl (k_this_registers, 16, .inl r_this_registers)), (a_this_storage, oX6 a_this_storage_bytes a_this_storage_keys), (a_this_storage_keys, .inl (k_this_storage_keys, 8, .inl r_this_storage_keys))] H := hP
  have hD : va_D A [(a_this, oX3 a_this_storage a_this_status a_this_channel a_this_registers a_this_first a_this_second o_this), (a_this_registers, .inl (k_this_registers, 16, .inl r_this_registers)), (a_this_storage, oX6 a_this_storage_bytes a_this_storage_keys), (a_this_storage_keys, .inl (k_this_storage_keys, 8, .inl r_this_storage_keys))] := hD
  refine lv_aload_n hx hb dX3_putBlockKey_8 rfl (lv_at hl 0 rfl) ?_
  refine lv_aload_n hx hb dX3_putBlockKey_9 rfl (lv_at hl 0 rfl) ?_
  refine gf_X3_142 (v := .int o_this.2.2.2.2.2.2.1) hx hb hown ht hK hP 0 rfl rfl dX3_putBlockKey_10 ?_
  refine q_Vi (rest := [.int (f_X3_blockInRegister o_this r_this_registers), .ref a_this_storage]) (c_X3_register l D a_this a_this_registers a_this_storage a_this_status a_this_channel a_this_first a_this_second k_this_registers o_this r_this_registers o_this.2.2.2.2.2.2.1) cv_X3_register hx hb hml hown ht hN hK hA hP hD hS hl.1 (km_X3_161) ⟨Nat.le_of_ble_eq_true rfl, Nat.le_of_ble_eq_true rfl⟩ rfl rfl [0, 1] (by decide) rfl [0] rfl (fun _ => rfl) (ci := 3) rfl rfl rfl rfl rfl (Nat.le_of_ble_eq_true rfl) dX3_putBlockKey_13 ⟨Nat.zero_le _, Nat.zero_le _⟩ (fun r u H locs hw hP hD hS => ?_)
  obtain ⟨rfl, rfl⟩ := hw
  have hP : va_P D vwCl [(a_this, oX3 a_this_storage a_this_status a_this_channel a_this_registers a_this_first a_this_second o_this), (a_this_registers, .inl (k_this_registers, 16, .inl r_this_registers)), (a_this_storage, oX6 a_this_storage_bytes a_this_storage_keys), (a_this_storage_keys, .inl (k_this_storage_keys, 8, .inl r_this_storage_keys))] H := hP
  have hD : va_D A [(a_this, oX3 a_this_storage a_this_status a_this_channel a_this_registers a_this_first a_this_second o_this), (a_this_registers, .inl (k_this_registers, 16, .inl r_this_registers)), (a_this_storage, oX6 a_this_storage_bytes a_this_storage_keys), (a_this_storage_keys, .inl (k_this_storage_keys, 8, .inl r_this_storage_keys))] := hD
  refine lv_iconst (v := 4) hx hb dX3_putBlockKey_16 (by decide) ?_
  refine lv_ishr hx hb dX3_putBlockKey_17 ?_
  refine q_Vv (rest := []) (c_X6_putKey l D a_this_storage a_this_storage_keys a_this_storage_bytes k_this_storage_keys r_this_storage_keys (f_X3_blockInRegister o_this r_this_registers) ((f_X3_register r_this_registers o_this.2.2.2.2.2.2.1) >>> ((4 : Int32) &&& 31))) cv_X6_putKey hx hb hml hown ht hN hK hA hP hD hS hl.1 (km_X3_215) ⟨Nat.le_of_ble_eq_true rfl, Nat.le_of_ble_eq_true rfl⟩ rfl rfl [2, 3] (by decide) rfl [1] rfl (fun _ => rfl) (ci := 6) rfl rfl rfl rfl rfl (Nat.le_of_ble_eq_true rfl) dX3_putBlockKey_18 ⟨Nat.zero_le _, Nat.zero_le _⟩ (fun w_3 H locs hw hP hD hS => ?_)
  have hP : va_P D vwCl [(a_this, oX3 a_this_storage a_this_status a_this_channel a_this_registers a_this_first a_this_second o_this), (a_this_registers, .inl (k_this_registers, 16, .inl r_this_registers)), (a_this_storage, oX6 a_this_storage_bytes a_this_storage_keys), (a_this_storage_keys, .inl (k_this_storage_keys, 8, .inl w_3))] H := hP
  have hD : va_D A [(a_this, oX3 a_this_storage a_this_status a_this_channel a_this_registers a_this_first a_this_second o_this), (a_this_registers, .inl (k_this_registers, 16, .inl r_this_registers)), (a_this_storage, oX6 a_this_storage_bytes a_this_storage_keys), (a_this_storage_keys, .inl (k_this_storage_keys, 8, .inl w_3))] := hD
  rw [q_let_of hw] at hF
  refine lv_iconst (v := 0) hx hb dX3_putBlockKey_21 (by decide) ?_
  exact hQ 0 (0, w_3) _ _ _ _ dX3_putBlockKey_22 ⟨hF.symm, rfl⟩ hP hD hS
theorem cv_X3_putBlockKey : qV yX3_putBlockKey cX3_putBlockKey 1 (some .int) 0 := ⟨kc_X3_putBlockKey, kt_X3_putBlockKey, ks_X3_putBlockKey, kn_X3, by decide, by decide +kernel⟩
def f_X3_takeBlockKey (o_this : Bool × Int32 × Int32 × Int32 × Int32 × Int32 × Int32 × Int32 × Int32 × Int32) (r_this_registers : Nat → Int32) (r_this_storage_keys : Nat → Int32) : Int32 × (Nat → Int32) := (q_let (f_X3_putRegister r_this_registers o_this.2.2.2.2.2.2.1 (((f_X3_register r_this_registers o_this.2.2.2.2.2.2.1) &&& ((-256) : Int32)) ||| ((f_X6_keyOfBlock r_this_storage_keys (f_X3_blockInRegister o_this r_this_registers)) * (16 : Int32)))) fun w_4 => (0, w_4))
set_option linter.all false in
set_option maxHeartbeats 4000000 in
set_option maxRecDepth 100000 in
theorem c_X3_takeBlockKey (l : Launch) (D : va_G) (a_this a_this_registers a_this_storage a_this_storage_keys a_this_status a_this_channel a_this_first a_this_second a_this_storage_bytes : Nat) (k_this_registers k_this_storage_keys : ClassId) (o_this : Bool × Int32 × Int32 × Int32 × Int32 × Int32 × Int32 × Int32 × Int32 × Int32) (r_this_registers : Nat → Int32) (r_this_storage_keys : Nat → Int32) : CtI l yX3_takeBlockKey cX3_takeBlockKey 2 (some .int) { frames := 2, cells := 0, slots := 0, locals := 41 } D [.ref a_this] [(a_this, oX3 a_this_storage a_this_status a_this_channel a_this_registers a_this_first a_this_second o_this), (a_this_registers, .inl (k_this_registers, 16, .inl r_this_registers)), (a_this_storage, oX6 a_this_storage_bytes a_this_storage_keys), (a_this_storage_keys, .inl (k_this_storage_keys, 8, .inl r_this_storage_keys))] [(k_this_registers, .int), (k_this_storage_keys, .int)] (fun (r : Int32) (u : Int32 × (Nat → Int32)) => f_X3_takeBlockKey o_this r_this_registers r_this_storage_keys = u ∧ r = u.1) (fun u => [(a_this, oX3 a_this_storage a_this_status a_this_channel a_this_registers a_this_first a_this_second o_this), (a_this_registers, .inl (k_this_registers, 16, .inl u.2)), (a_this_storage, oX6 a_this_storage_bytes a_this_storage_keys), (a_this_storage_keys, .inl (k_this_storage_keys, 8, .inl r_this_storage_keys))]) := by
  refine CtI.of (by decide) (Nat.le_of_ble_eq_true rfl) ?_
  intro p e s m below meth c A ls Q hE hP hD hS hl hQ
  obtain ⟨hx, hb, hml, hown, ht, hN, hK, hA⟩ := hE
  have hown : s.vm.findClass RX3 = some m.cls := hown
  have hl : lv_has ls 2 [(0, .ref a_this)] := hl
  obtain ⟨F, hF⟩ : ∃ F, f_X3_takeBlockKey o_this r_this_registers r_this_storage_keys = F := ⟨_, rfl⟩
  rw [hF] at hQ
  unfold f_X3_takeBlockKey at hF
  refine lv_aload_n hx hb dX3_takeBlockKey_0 rfl (lv_at hl 0 rfl) ?_
  refine gf_X3_12 (v := .ref a_this_storage) hx hb hown ht hK hP 0 rfl rfl dX3_takeBlockKey_1 ?_
  refine lv_aload_n hx hb dX3_takeBlockKey_4 rfl (lv_at hl 0 rfl) ?_
  refine q_Vi (rest := [.ref a_this_storage]) (c_X3_blockInRegister l D a_this a_this_registers a_this_storage a_this_status a_this_channel a_this_first a_this_second k_this_registers o_this r_this_registers) cv_X3_blockInRegister hx hb hml hown ht hN hK hA hP hD hS hl.1 (km_X3_212) ⟨Nat.le_of_ble_eq_true rfl, Nat.le_of_ble_eq_true rfl⟩ rfl rfl [0, 1] (by decide) rfl [0] rfl (fun _ => rfl) (ci := 3) rfl rfl rfl rfl rfl (Nat.le_of_ble_eq_true rfl) dX3_takeBlockKey_5 ⟨Nat.zero_le _, Nat.zero_le _⟩ (fun r u H locs hw hP hD hS => ?_)
  obtain ⟨rfl, rfl⟩ := hw
  have hP : va_P D vwCl [(a_this, oX3 a_this_storage a_this_status a_this_channel a_this_registers a_this_first a_this_second o_this), (a_this_registers, .inl (k_this_registers, 16, .inl r_this_registers)), (a_this_storage, oX6 a_this_storage_bytes a_this_storage_keys), (a_this_storage_keys, .inl (k_this_storage_keys, 8, .inl r_this_storage_keys))] H := hP
  have hD : va_D A [(a_this, oX3 a_this_storage a_this_status a_this_channel a_this_registers a_this_first a_this_second o_this), (a_this_registers, .inl (k_this_registers, 16, .inl r_this_registers)), (a_this_storage, oX6 a_this_storage_bytes a_this_storage_keys), (a_this_storage_keys, .inl (k_this_storage_keys, 8, .inl r_this_storage_keys))] := hD
  refine q_Vi (rest := []) (c_X6_keyOfBlock l D a_this_storage a_this_storage_keys a_this_storage_bytes k_this_storage_keys r_this_storage_keys (f_X3_blockInRegister o_this r_this_registers)) cv_X6_keyOfBlock hx hb hml hown ht hN hK hA hP hD hS hl.1 (km_X3_218) ⟨Nat.le_of_ble_eq_true rfl, Nat.le_of_ble_eq_true rfl⟩ rfl rfl [2, 3] (by decide) rfl [1] rfl (fun _ => rfl) (ci := 6) rfl rfl rfl rfl rfl (Nat.le_of_ble_eq_true rfl) dX3_takeBlockKey_8 ⟨Nat.zero_le _, Nat.zero_le _⟩ (fun r u H locs hw hP hD hS => ?_)
  obtain ⟨rfl, rfl⟩ := hw
  have hP : va_P D vwCl [(a_this, oX3 a_this_storage a_this_status a_this_channel a_this_registers a_this_first a_this_second o_this), (a_this_registers, .inl (k_this_registers, 16, .inl r_this_registers)), (a_this_storage, oX6 a_this_storage_bytes a_this_storage_keys), (a_this_storage_keys, .inl (k_this_storage_keys, 8, .inl r_this_storage_keys))] H := hP
  have hD : va_D A [(a_this, oX3 a_this_storage a_this_status a_this_channel a_this_registers a_this_first a_this_second o_this), (a_this_registers, .inl (k_this_registers, 16, .inl r_this_registers)), (a_this_storage, oX6 a_this_storage_bytes a_this_storage_keys), (a_this_storage_keys, .inl (k_this_storage_keys, 8, .inl r_this_storage_keys))] := hD
  refine lv_istore_n (lv' := [(1, .int (f_X6_keyOfBlock r_this_storage_keys (f_X3_blockInRegister o_this r_this_registers))), (0, .ref a_this)]) hx hb dX3_takeBlockKey_11 rfl hl (by decide) rfl (fun ls hl => ?_)
  refine lv_aload_n hx hb dX3_takeBlockKey_12 rfl (lv_at hl 1 rfl) ?_
  refine lv_aload_n hx hb dX3_takeBlockKey_13 rfl (lv_at hl 1 rfl) ?_
  refine gf_X3_142 (v := .int o_this.2.2.2.2.2.2.1) hx hb hown ht hK hP 0 rfl rfl dX3_takeBlockKey_14 ?_
  refine lv_aload_n hx hb dX3_takeBlockKey_17 rfl (lv_at hl 1 rfl) ?_
  refine lv_aload_n hx hb dX3_takeBlockKey_18 rfl (lv_at hl 1 rfl) ?_
  refine gf_X3_142 (v := .int o_this.2.2.2.2.2.2.1) hx hb hown ht hK hP 0 rfl rfl dX3_takeBlockKey_19 ?_
  refine q_Vi (rest := [.int o_this.2.2.2.2.2.2.1, .ref a_this]) (c_X3_register l D a_this a_this_registers a_this_storage a_this_status a_this_channel a_this_first a_this_second k_this_registers o_this r_this_registers o_this.2.2.2.2.2.2.1) cv_X3_register hx hb hml hown ht hN hK hA hP hD hS hl.1 (km_X3_161) ⟨Nat.le_of_ble_eq_true rfl, Nat.le_of_ble_eq_true rfl⟩ rfl rfl [0, 1] (by decide) rfl [0] rfl (fun _ => rfl) (ci := 3) rfl rfl rfl rfl rfl (Nat.le_of_ble_eq_true rfl) dX3_takeBlockKey_22 ⟨Nat.zero_le _, Nat.zero_le _⟩ (fun r u H locs hw hP hD hS => ?_)
  obtain ⟨rfl, rfl⟩ := hw
  have hP : va_P D vwCl [(a_this, oX3 a_this_storage a_this_status a_this_channel a_this_registers a_this_first a_this_second o_this), (a_this_registers, .inl (k_this_registers, 16, .inl r_this_registers)), (a_this_storage, oX6 a_this_storage_bytes a_this_storage_keys), (a_this_storage_keys, .inl (k_this_storage_keys, 8, .inl r_this_storage_keys))] H := hP
  have hD : va_D A [(a_this, oX3 a_this_storage a_this_status a_this_channel a_this_registers a_this_first a_this_second o_this), (a_this_registers, .inl (k_this_registers, 16, .inl r_this_registers)), (a_this_storage, oX6 a_this_storage_bytes a_this_storage_keys), (a_this_storage_keys, .inl (k_this_storage_keys, 8, .inl r_this_storage_keys))] := hD
  refine lv_sipush (v := (-256)) hx hb dX3_takeBlockKey_25 (by decide) ?_
  refine lv_iand hx hb dX3_takeBlockKey_28 ?_
  refine lv_iload_n hx hb dX3_takeBlockKey_29 rfl (lv_at hl 0 rfl) ?_
  refine lv_bipush (v := 16) hx hb dX3_takeBlockKey_30 (by decide) ?_
  refine lv_imul hx hb dX3_takeBlockKey_32 ?_
  refine lv_ior hx hb dX3_takeBlockKey_33 ?_
  refine q_Vv (rest := []) (c_X3_putRegister l D a_this a_this_registers a_this_storage a_this_status a_this_channel a_this_first a_this_second k_this_registers o_this r_this_registers o_this.2.2.2.2.2.2.1 (((f_X3_register r_this_registers o_this.2.2.2.2.2.2.1) &&& ((-256) : Int32)) ||| ((f_X6_keyOfBlock r_this_storage_keys (f_X3_blockInRegister o_this r_this_registers)) * (16 : Int32)))) cv_X3_putRegister hx hb hml hown ht hN hK hA hP hD hS hl.1 (km_X3_206) ⟨Nat.le_of_ble_eq_true rfl, Nat.le_of_ble_eq_true rfl⟩ rfl rfl [0, 1] (by decide) rfl [0] rfl (fun _ => rfl) (ci := 3) rfl rfl rfl rfl rfl (Nat.le_of_ble_eq_true rfl) dX3_takeBlockKey_34 ⟨Nat.zero_le _, Nat.zero_le _⟩ (fun w_4 H locs hw hP hD hS => ?_)
  have hP : va_P D vwCl [(a_this, oX3 a_this_storage a_this_status a_this_channel a_this_registers a_this_first a_this_second o_this), (a_this_registers, .inl (k_this_registers, 16, .inl w_4)), (a_this_storage, oX6 a_this_storage_bytes a_this_storage_keys), (a_this_storage_keys, .inl (k_this_storage_keys, 8, .inl r_this_storage_keys))] H := hP
  have hD : va_D A [(a_this, oX3 a_this_storage a_this_status a_this_channel a_this_registers a_this_first a_this_second o_this), (a_this_registers, .inl (k_this_registers, 16, .inl w_4)), (a_this_storage, oX6 a_this_storage_bytes a_this_storage_keys), (a_this_storage_keys, .inl (k_this_storage_keys, 8, .inl r_this_storage_keys))] := hD
  rw [q_let_of hw] at hF
  refine lv_iconst (v := 0) hx hb dX3_takeBlockKey_37 (by decide) ?_
  exact hQ 0 (0, w_4) _ _ _ _ dX3_takeBlockKey_38 ⟨hF.symm, rfl⟩ hP hD hS
theorem cv_X3_takeBlockKey : qV yX3_takeBlockKey cX3_takeBlockKey 2 (some .int) 0 := ⟨kc_X3_takeBlockKey, kt_X3_takeBlockKey, ks_X3_takeBlockKey, kn_X3, by decide, by decide +kernel⟩
def f_X3_callSupervisor (o_this : Bool × Int32 × Int32 × Int32 × Int32 × Int32 × Int32 × Int32 × Int32 × Int32) (o_this_status : Int32 × Int32 × Int32 × Int32) (r_this_storage_bytes : Nat → Int32) : Int32 × (Int32 × Int32 × Int32 × Int32) × (Nat → Int32) := (q_let (f_X3_interrupt o_this_status r_this_storage_bytes 32 96 o_this.2.2.2.2.2.1) fun w_1 => (0, w_1.1, w_1.2))
set_option linter.all false in
set_option maxHeartbeats 4000000 in
set_option maxRecDepth 100000 in
theorem c_X3_callSupervisor (l : Launch) (D : va_G) (a_this a_this_status a_this_storage a_this_storage_bytes a_this_channel a_this_registers a_this_first a_this_second a_this_storage_keys : Nat) (k_this_storage_bytes : ClassId) (o_this : Bool × Int32 × Int32 × Int32 × Int32 × Int32 × Int32 × Int32 × Int32 × Int32) (o_this_status : Int32 × Int32 × Int32 × Int32) (r_this_storage_bytes : Nat → Int32) : CtI l yX3_callSupervisor cX3_callSupervisor 1 (some .int) { frames := 4, cells := 0, slots := 0, locals := 90 } D [.ref a_this] [(a_this, oX3 a_this_storage a_this_status a_this_channel a_this_registers a_this_first a_this_second o_this), (a_this_status, oX5 o_this_status), (a_this_storage, oX6 a_this_storage_bytes a_this_storage_keys), (a_this_storage_bytes, .inl (k_this_storage_bytes, 2048, .inl r_this_storage_bytes))] [(k_this_storage_bytes, .byte)] (fun (r : Int32) (u : Int32 × (Int32 × Int32 × Int32 × Int32) × (Nat → Int32)) => f_X3_callSupervisor o_this o_this_status r_this_storage_bytes = u ∧ r = u.1) (fun u => [(a_this, oX3 a_this_storage a_this_status a_this_channel a_this_registers a_this_first a_this_second o_this), (a_this_status, oX5 u.2.1), (a_this_storage, oX6 a_this_storage_bytes a_this_storage_keys), (a_this_storage_bytes, .inl (k_this_storage_bytes, 2048, .inl u.2.2))]) := by
  refine CtI.of (by decide) (Nat.le_of_ble_eq_true rfl) ?_
  intro p e s m below meth c A ls Q hE hP hD hS hl hQ
  obtain ⟨hx, hb, hml, hown, ht, hN, hK, hA⟩ := hE
  have hown : s.vm.findClass RX3 = some m.cls := hown
  have hl : lv_has ls 1 [(0, .ref a_this)] := hl
  obtain ⟨F, hF⟩ : ∃ F, f_X3_callSupervisor o_this o_this_status r_this_storage_bytes = F := ⟨_, rfl⟩
  rw [hF] at hQ
  unfold f_X3_callSupervisor at hF
  refine lv_aload_n hx hb dX3_callSupervisor_0 rfl (lv_at hl 0 rfl) ?_
  refine lv_bipush (v := 32) hx hb dX3_callSupervisor_1 (by decide) ?_
  refine lv_bipush (v := 96) hx hb dX3_callSupervisor_3 (by decide) ?_
  refine lv_aload_n hx hb dX3_callSupervisor_5 rfl (lv_at hl 0 rfl) ?_
  refine gf_X3_139 (v := .int o_this.2.2.2.2.2.1) hx hb hown ht hK hP 0 rfl rfl dX3_callSupervisor_6 ?_
  refine q_Vv (rest := []) (c_X3_interrupt l D a_this a_this_status a_this_storage a_this_storage_bytes a_this_channel a_this_registers a_this_first a_this_second a_this_storage_keys k_this_storage_bytes o_this o_this_status r_this_storage_bytes 32 96 o_this.2.2.2.2.2.1) cv_X3_interrupt hx hb hml hown ht hN hK hA hP hD hS hl.1 (km_X3_82) ⟨Nat.le_of_ble_eq_true rfl, Nat.le_of_ble_eq_true rfl⟩ rfl rfl [0, 1, 2, 3] (by decide) rfl [0] rfl (fun _ => rfl) (ci := 3) rfl rfl rfl rfl rfl (Nat.le_of_ble_eq_true rfl) dX3_callSupervisor_9 ⟨Nat.zero_le _, Nat.zero_le _⟩ (fun w_1 H locs hw hP hD hS => ?_)
  have hP : va_P D vwCl [(a_this, oX3 a_this_storage a_this_status a_this_channel a_this_registers a_this_first a_this_second o_this), (a_this_status, oX5 w_1.1), (a_this_storage, oX6 a_this_storage_bytes a_this_storage_keys), (a_this_storage_bytes, .inl (k_this_storage_bytes, 2048, .inl w_1.2))] H := hP
  have hD : va_D A [(a_this, oX3 a_this_storage a_this_status a_this_channel a_this_registers a_this_first a_this_second o_this), (a_this_status, oX5 w_1.1), (a_this_storage, oX6 a_this_storage_bytes a_this_storage_keys), (a_this_storage_bytes, .inl (k_this_storage_bytes, 2048, .inl w_1.2))] := hD
  rw [q_let_of hw] at hF
  refine lv_iconst (v := 0) hx hb dX3_callSupervisor_12 (by decide) ?_
  exact hQ 0 (0, w_1.1, w_1.2) _ _ _ _ dX3_callSupervisor_13 ⟨hF.symm, rfl⟩ hP hD hS
theorem cv_X3_callSupervisor : qV yX3_callSupervisor cX3_callSupervisor 1 (some .int) 0 := ⟨kc_X3_callSupervisor, kt_X3_callSupervisor, ks_X3_callSupervisor, kn_X3, by decide, by decide +kernel⟩
def f_X3_loadAndTest (o_this : Bool × Int32 × Int32 × Int32 × Int32 × Int32 × Int32 × Int32 × Int32 × Int32) (r_this_registers : Nat → Int32) (o_this_status : Int32 × Int32 × Int32 × Int32) : Int32 × (Nat → Int32) × (Int32 × Int32 × Int32 × Int32) := (q_let (f_X3_putRegister r_this_registers o_this.2.2.2.2.2.2.1 (f_X3_register r_this_registers o_this.2.2.2.2.2.2.2.1)) fun w_2 => (0, w_2, (o_this_status.1, o_this_status.2.1, (f_X7_order ((f_X3_register w_2 o_this.2.2.2.2.2.2.1).toInt64) 0), o_this_status.2.2.2)))
set_option linter.all false in
set_option maxHeartbeats 4000000 in
set_option maxRecDepth 100000 in
theorem c_X3_loadAndTest (l : Launch) (D : va_G) (a_this a_this_registers a_this_status a_this_storage a_this_channel a_this_first a_this_second : Nat) (k_this_registers : ClassId) (o_this : Bool × Int32 × Int32 × Int32 × Int32 × Int32 × Int32 × Int32 × Int32 × Int32) (r_this_registers : Nat → Int32) (o_this_status : Int32 × Int32 × Int32 × Int32) : CtI l yX3_loadAndTest cX3_loadAndTest 1 (some .int) { frames := 1, cells := 0, slots := 0, locals := 23 } D [.ref a_this] [(a_this, oX3 a_this_storage a_this_status a_this_channel a_this_registers a_this_first a_this_second o_this), (a_this_registers, .inl (k_this_registers, 16, .inl r_this_registers)), (a_this_status, oX5 o_this_status)] [(k_this_registers, .int)] (fun (r : Int32) (u : Int32 × (Nat → Int32) × (Int32 × Int32 × Int32 × Int32)) => f_X3_loadAndTest o_this r_this_registers o_this_status = u ∧ r = u.1) (fun u => [(a_this, oX3 a_this_storage a_this_status a_this_channel a_this_registers a_this_first a_this_second o_this), (a_this_registers, .inl (k_this_registers, 16, .inl u.2.1)), (a_this_status, oX5 u.2.2)]) := by
  refine CtI.of (by decide) (Nat.le_of_ble_eq_true rfl) ?_
  intro p e s m below meth c A ls Q hE hP hD hS hl hQ
  obtain ⟨hx, hb, hml, hown, ht, hN, hK, hA⟩ := hE
  have hown : s.vm.findClass RX3 = some m.cls := hown
  have hl : lv_has ls 1 [(0, .ref a_this)] := hl
  obtain ⟨F, hF⟩ : ∃ F, f_X3_loadAndTest o_this r_this_registers o_this_status = F := ⟨_, rfl⟩
  rw [hF] at hQ
  unfold f_X3_loadAndTest at hF
  refine lv_aload_n hx hb dX3_loadAndTest_0 rfl (lv_at hl 0 rfl) ?_
  refine lv_aload_n hx hb dX3_loadAndTest_1 rfl (lv_at hl 0 rfl) ?_
  refine gf_X3_142 (v := .int o_this.2.2.2.2.2.2.1) hx hb hown ht hK hP 0 rfl rfl dX3_loadAndTest_2 ?_
  refine lv_aload_n hx hb dX3_loadAndTest_5 rfl (lv_at hl 0 rfl) ?_
  refine lv_aload_n hx hb dX3_loadAndTest_6 rfl (lv_at hl 0 rfl) ?_
  refine gf_X3_145 (v := .int o_this.2.2.2.2.2.2.2.1) hx hb hown ht hK hP 0 rfl rfl dX3_loadAndTest_7 ?_
  refine q_Vi (rest := [.int o_this.2.2.2.2.2.2.1, .ref a_this]) (c_X3_register l D a_this a_this_registers a_this_storage a_this_status a_this_channel a_this_first a_this_second k_this_registers o_this r_this_registers o_this.2.2.2.2.2.2.2.1) cv_X3_register hx hb hml hown ht hN hK hA hP hD hS hl.1 (km_X3_161) ⟨Nat.le_of_ble_eq_true rfl, Nat.le_of_ble_eq_true rfl⟩ rfl rfl [0, 1] (by decide) rfl [0] rfl (fun _ => rfl) (ci := 3) rfl rfl rfl rfl rfl (Nat.le_of_ble_eq_true rfl) dX3_loadAndTest_10 ⟨Nat.zero_le _, Nat.zero_le _⟩ (fun r u H locs hw hP hD hS => ?_)
  obtain ⟨rfl, rfl⟩ := hw
  have hP : va_P D vwCl [(a_this, oX3 a_this_storage a_this_status a_this_channel a_this_registers a_this_first a_this_second o_this), (a_this_registers, .inl (k_this_registers, 16, .inl r_this_registers)), (a_this_status, oX5 o_this_status)] H := hP
  have hD : va_D A [(a_this, oX3 a_this_storage a_this_status a_this_channel a_this_registers a_this_first a_this_second o_this), (a_this_registers, .inl (k_this_registers, 16, .inl r_this_registers)), (a_this_status, oX5 o_this_status)] := hD
  refine q_Vv (rest := []) (c_X3_putRegister l D a_this a_this_registers a_this_storage a_this_status a_this_channel a_this_first a_this_second k_this_registers o_this r_this_registers o_this.2.2.2.2.2.2.1 (f_X3_register r_this_registers o_this.2.2.2.2.2.2.2.1)) cv_X3_putRegister hx hb hml hown ht hN hK hA hP hD hS hl.1 (km_X3_206) ⟨Nat.le_of_ble_eq_true rfl, Nat.le_of_ble_eq_true rfl⟩ rfl rfl [0, 1] (by decide) rfl [0] rfl (fun _ => rfl) (ci := 3) rfl rfl rfl rfl rfl (Nat.le_of_ble_eq_true rfl) dX3_loadAndTest_13 ⟨Nat.zero_le _, Nat.zero_le _⟩ (fun w_2 H locs hw hP hD hS => ?_)
  have hP : va_P D vwCl [(a_this, oX3 a_this_storage a_this_status a_this_channel a_this_registers a_this_first a_this_second o_this), (a_this_registers, .inl (k_this_registers, 16, .inl w_2)), (a_this_status, oX5 o_this_status)] H := hP
  have hD : va_D A [(a_this, oX3 a_this_storage a_this_status a_this_channel a_this_registers a_this_first a_this_second o_this), (a_this_registers, .inl (k_this_registers, 16, .inl w_2)), (a_this_status, oX5 o_this_status)] := hD
  rw [q_let_of hw] at hF
  refine lv_aload_n hx hb dX3_loadAndTest_16 rfl (lv_at hl 0 rfl) ?_
  refine gf_X3_21 (v := .ref a_this_status) hx hb hown ht hK hP 0 rfl rfl dX3_loadAndTest_17 ?_
  refine lv_aload_n hx hb dX3_loadAndTest_20 rfl (lv_at hl 0 rfl) ?_
  refine lv_aload_n hx hb dX3_loadAndTest_21 rfl (lv_at hl 0 rfl) ?_
  refine gf_X3_142 (v := .int o_this.2.2.2.2.2.2.1) hx hb hown ht hK hP 0 rfl rfl dX3_loadAndTest_22 ?_
  refine q_Vi (rest := [.ref a_this_status]) (c_X3_register l D a_this a_this_registers a_this_storage a_this_status a_this_channel a_this_first a_this_second k_this_registers o_this w_2 o_this.2.2.2.2.2.2.1) cv_X3_register hx hb hml hown ht hN hK hA hP hD hS hl.1 (km_X3_161) ⟨Nat.le_of_ble_eq_true rfl, Nat.le_of_ble_eq_true rfl⟩ rfl rfl [0, 1] (by decide) rfl [0] rfl (fun _ => rfl) (ci := 3) rfl rfl rfl rfl rfl (Nat.le_of_ble_eq_true rfl) dX3_loadAndTest_25 ⟨Nat.zero_le _, Nat.zero_le _⟩ (fun r u H locs hw hP hD hS => ?_)
  obtain ⟨rfl, rfl⟩ := hw
  have hP : va_P D vwCl [(a_this, oX3 a_this_storage a_this_status a_this_channel a_this_registers a_this_first a_this_second o_this), (a_this_registers, .inl (k_this_registers, 16, .inl w_2)), (a_this_status, oX5 o_this_status)] H := hP
  have hD : va_D A [(a_this, oX3 a_this_storage a_this_status a_this_channel a_this_registers a_this_first a_this_second o_this), (a_this_registers, .inl (k_this_registers, 16, .inl w_2)), (a_this_status, oX5 o_this_status)] := hD
  refine lv_i2l hx hb dX3_loadAndTest_28 rfl ?_
  refine lv_lconst (v := 0) hx hb dX3_loadAndTest_29 (by decide) ?_
  refine q_Ni (rest := [.ref a_this_status]) (c_X7_order l D ((f_X3_register w_2 o_this.2.2.2.2.2.2.1).toInt64) 0) cv_X7_order hx hb hml hown ht hN hK hA hP hD hS hl.1 (hN.2.2) ⟨Nat.le_of_ble_eq_true rfl, Nat.le_of_ble_eq_true rfl⟩ rfl rfl [] (by decide) rfl [] rfl (fun _ => rfl) rfl rfl (Nat.le_of_ble_eq_true rfl) dX3_loadAndTest_30 ⟨Nat.zero_le _, Nat.zero_le _⟩ (fun r u H locs hw hP hD hS => ?_)
  obtain ⟨rfl, rfl⟩ := hw
  have hP : va_P D vwCl [(a_this, oX3 a_this_storage a_this_status a_this_channel a_this_registers a_this_first a_this_second o_this), (a_this_registers, .inl (k_this_registers, 16, .inl w_2)), (a_this_status, oX5 o_this_status)] H := hP
  have hD : va_D A [(a_this, oX3 a_this_storage a_this_status a_this_channel a_this_registers a_this_first a_this_second o_this), (a_this_registers, .inl (k_this_registers, 16, .inl w_2)), (a_this_status, oX5 o_this_status)] := hD
  refine pf_X3_209 (x := (f_X7_order ((f_X3_register w_2 o_this.2.2.2.2.2.2.1).toInt64) 0)) hx hb hown ht hK hP hD hS 2 rfl (Nat.le_of_ble_eq_true rfl) dX3_loadAndTest_33 (fun H locs hP hD hS => ?_)
  have hP : va_P D vwCl [(a_this, oX3 a_this_storage a_this_status a_this_channel a_this_registers a_this_first a_this_second o_this), (a_this_registers, .inl (k_this_registers, 16, .inl w_2)), (a_this_status, oX5 (o_this_status.1, o_this_status.2.1, (f_X7_order ((f_X3_register w_2 o_this.2.2.2.2.2.2.1).toInt64) 0), o_this_status.2.2.2))] H := hP
  have hD : va_D A [(a_this, oX3 a_this_storage a_this_status a_this_channel a_this_registers a_this_first a_this_second o_this), (a_this_registers, .inl (k_this_registers, 16, .inl w_2)), (a_this_status, oX5 (o_this_status.1, o_this_status.2.1, (f_X7_order ((f_X3_register w_2 o_this.2.2.2.2.2.2.1).toInt64) 0), o_this_status.2.2.2))] := hD
  refine lv_iconst (v := 0) hx hb dX3_loadAndTest_36 (by decide) ?_
  exact hQ 0 (0, w_2, (o_this_status.1, o_this_status.2.1, (f_X7_order ((f_X3_register w_2 o_this.2.2.2.2.2.2.1).toInt64) 0), o_this_status.2.2.2)) _ _ _ _ dX3_loadAndTest_37 ⟨hF.symm, rfl⟩ hP hD hS
theorem cv_X3_loadAndTest : qV yX3_loadAndTest cX3_loadAndTest 1 (some .int) 0 := ⟨kc_X3_loadAndTest, kt_X3_loadAndTest, ks_X3_loadAndTest, kn_X3, by decide, by decide +kernel⟩
def f_X3_putLogical (o_this : Bool × Int32 × Int32 × Int32 × Int32 × Int32 × Int32 × Int32 × Int32 × Int32) (r_this_registers : Nat → Int32) (o_this_status : Int32 × Int32 × Int32 × Int32) (p1 : Int32) : Int32 × (Nat → Int32) × (Int32 × Int32 × Int32 × Int32) := (q_let (f_X3_putRegister r_this_registers o_this.2.2.2.2.2.2.1 p1) fun w_1 => (if p1 = 0 then (0, w_1, (o_this_status.1, o_this_status.2.1, 0, o_this_status.2.2.2)) else (0, w_1, (o_this_status.1, o_this_status.2.1, 1, o_this_status.2.2.2))))
set_option linter.all false in
set_option maxHeartbeats 4000000 in
set_option maxRecDepth 100000 in
theorem c_X3_putLogical (l : Launch) (D : va_G) (a_this a_this_registers a_this_status a_this_storage a_this_channel a_this_first a_this_second : Nat) (k_this_registers : ClassId) (o_this : Bool × Int32 × Int32 × Int32 × Int32 × Int32 × Int32 × Int32 × Int32 × Int32) (r_this_registers : Nat → Int32) (o_this_status : Int32 × Int32 × Int32 × Int32) (p1 : Int32) : CtI l yX3_putLogical cX3_putLogical 2 (some .int) { frames := 1, cells := 0, slots := 0, locals := 22 } D [.ref a_this, .int p1] [(a_this, oX3 a_this_storage a_this_status a_this_channel a_this_registers a_this_first a_this_second o_this), (a_this_registers, .inl (k_this_registers, 16, .inl r_this_registers)), (a_this_status, oX5 o_this_status)] [(k_this_registers, .int)] (fun (r : Int32) (u : Int32 × (Nat → Int32) × (Int32 × Int32 × Int32 × Int32)) => f_X3_putLogical o_this r_this_registers o_this_status p1 = u ∧ r = u.1) (fun u => [(a_this, oX3 a_this_storage a_this_status a_this_channel a_this_registers a_this_first a_this_second o_this), (a_this_registers, .inl (k_this_registers, 16, .inl u.2.1)), (a_this_status, oX5 u.2.2)]) := by
  refine CtI.of (by decide) (Nat.le_of_ble_eq_true rfl) ?_
  intro p e s m below meth c A ls Q hE hP hD hS hl hQ
  obtain ⟨hx, hb, hml, hown, ht, hN, hK, hA⟩ := hE
  have hown : s.vm.findClass RX3 = some m.cls := hown
  have hl : lv_has ls 2 [(0, .ref a_this), (1, .int p1)] := hl
  obtain ⟨F, hF⟩ : ∃ F, f_X3_putLogical o_this r_this_registers o_this_status p1 = F := ⟨_, rfl⟩
  rw [hF] at hQ
  unfold f_X3_putLogical at hF
  refine lv_aload_n hx hb dX3_putLogical_0 rfl (lv_at hl 0 rfl) ?_
  refine lv_aload_n hx hb dX3_putLogical_1 rfl (lv_at hl 0 rfl) ?_
  refine gf_X3_142 (v := .int o_this.2.2.2.2.2.2.1) hx hb hown ht hK hP 0 rfl rfl dX3_putLogical_2 ?_
  refine lv_iload_n hx hb dX3_putLogical_5 rfl (lv_at hl 1 rfl) ?_
  refine q_Vv (rest := []) (c_X3_putRegister l D a_this a_this_registers a_this_storage a_this_status a_this_channel a_this_first a_this_second k_this_registers o_this r_this_registers o_this.2.2.2.2.2.2.1 p1) cv_X3_putRegister hx hb hml hown ht hN hK hA hP hD hS hl.1 (km_X3_206) ⟨Nat.le_of_ble_eq_true rfl, Nat.le_of_ble_eq_true rfl⟩ rfl rfl [0, 1] (by decide) rfl [0] rfl (fun _ => rfl) (ci := 3) rfl rfl rfl rfl rfl (Nat.le_of_ble_eq_true rfl) dX3_putLogical_6 ⟨Nat.zero_le _, Nat.zero_le _⟩ (fun w_1 H locs hw hP hD hS => ?_)
  have hP : va_P D vwCl [(a_this, oX3 a_this_storage a_this_status a_this_channel a_this_registers a_this_first a_this_second o_this), (a_this_registers, .inl (k_this_registers, 16, .inl w_1)), (a_this_status, oX5 o_this_status)] H := hP
  have hD : va_D A [(a_this, oX3 a_this_storage a_this_status a_this_channel a_this_registers a_this_first a_this_second o_this), (a_this_registers, .inl (k_this_registers, 16, .inl w_1)), (a_this_status, oX5 o_this_status)] := hD
  rw [q_let_of hw] at hF
  refine lv_aload_n hx hb dX3_putLogical_9 rfl (lv_at hl 0 rfl) ?_
  refine gf_X3_21 (v := .ref a_this_status) hx hb hown ht hK hP 0 rfl rfl dX3_putLogical_10 ?_
  refine lv_iload_n hx hb dX3_putLogical_13 rfl (lv_at hl 1 rfl) ?_
  refine lv_if_ne (tgt := 21) hx hb dX3_putLogical_14 (by decide) (fun c_2 => ?_) (fun c_2 => ?_)
  · skip
    rw [if_neg c_2] at hF
    refine lv_iconst (v := 1) hx hb dX3_putLogical_21 (by decide) ?_
    refine pf_X3_209 (x := 1) hx hb hown ht hK hP hD hS 2 rfl (Nat.le_of_ble_eq_true rfl) dX3_putLogical_22 (fun H locs hP hD hS => ?_)
    have hP : va_P D vwCl [(a_this, oX3 a_this_storage a_this_status a_this_channel a_this_registers a_this_first a_this_second o_this), (a_this_registers, .inl (k_this_registers, 16, .inl w_1)), (a_this_status, oX5 (o_this_status.1, o_this_status.2.1, 1, o_this_status.2.2.2))] H := hP
    have hD : va_D A [(a_this, oX3 a_this_storage a_this_status a_this_channel a_this_registers a_this_first a_this_second o_this), (a_this_registers, .inl (k_this_registers, 16, .inl w_1)), (a_this_status, oX5 (o_this_status.1, o_this_status.2.1, 1, o_this_status.2.2.2))] := hD
    refine lv_iconst (v := 0) hx hb dX3_putLogical_25 (by decide) ?_
    exact hQ 0 (0, w_1, (o_this_status.1, o_this_status.2.1, 1, o_this_status.2.2.2)) _ _ _ _ dX3_putLogical_26 ⟨hF.symm, rfl⟩ hP hD hS
  · skip
    rw [if_pos c_2] at hF
    refine lv_iconst (v := 0) hx hb dX3_putLogical_17 (by decide) ?_
    refine lv_goto (tgt := 22) hx hb dX3_putLogical_18 (by decide) ?_
    refine pf_X3_209 (x := 0) hx hb hown ht hK hP hD hS 2 rfl (Nat.le_of_ble_eq_true rfl) dX3_putLogical_22 (fun H locs hP hD hS => ?_)
    have hP : va_P D vwCl [(a_this, oX3 a_this_storage a_this_status a_this_channel a_this_registers a_this_first a_this_second o_this), (a_this_registers, .inl (k_this_registers, 16, .inl w_1)), (a_this_status, oX5 (o_this_status.1, o_this_status.2.1, 0, o_this_status.2.2.2))] H := hP
    have hD : va_D A [(a_this, oX3 a_this_storage a_this_status a_this_channel a_this_registers a_this_first a_this_second o_this), (a_this_registers, .inl (k_this_registers, 16, .inl w_1)), (a_this_status, oX5 (o_this_status.1, o_this_status.2.1, 0, o_this_status.2.2.2))] := hD
    refine lv_iconst (v := 0) hx hb dX3_putLogical_25 (by decide) ?_
    exact hQ 0 (0, w_1, (o_this_status.1, o_this_status.2.1, 0, o_this_status.2.2.2)) _ _ _ _ dX3_putLogical_26 ⟨hF.symm, rfl⟩ hP hD hS
theorem cv_X3_putLogical : qV yX3_putLogical cX3_putLogical 2 (some .int) 1 := ⟨kc_X3_putLogical, kt_X3_putLogical, ks_X3_putLogical, kn_X3, by decide, by decide +kernel⟩
def f_X3_putSum (o_this : Bool × Int32 × Int32 × Int32 × Int32 × Int32 × Int32 × Int32 × Int32 × Int32) (r_this_registers : Nat → Int32) (o_this_status : Int32 × Int32 × Int32 × Int32) (p1 : Int64) : Int32 × (Nat → Int32) × (Int32 × Int32 × Int32 × Int32) := (q_let (f_X3_putRegister r_this_registers o_this.2.2.2.2.2.2.1 p1.toInt32) fun w_1 => (if (lg_cmp p1.toInt32.toInt64 p1) = 0 then (0, w_1, (o_this_status.1, o_this_status.2.1, (f_X7_order p1.toInt32.toInt64 0), o_this_status.2.2.2)) else (if (f_X5_allows (o_this_status.1, o_this_status.2.1, 3, o_this_status.2.2.2) 8) = true then (8, w_1, (o_this_status.1, o_this_status.2.1, 3, o_this_status.2.2.2)) else (0, w_1, (o_this_status.1, o_this_status.2.1, 3, o_this_status.2.2.2)))))
set_option linter.all false in
set_option maxHeartbeats 4000000 in
set_option maxRecDepth 100000 in
theorem c_X3_putSum (l : Launch) (D : va_G) (a_this a_this_registers a_this_status a_this_storage a_this_channel a_this_first a_this_second : Nat) (k_this_registers : ClassId) (o_this : Bool × Int32 × Int32 × Int32 × Int32 × Int32 × Int32 × Int32 × Int32 × Int32) (r_this_registers : Nat → Int32) (o_this_status : Int32 × Int32 × Int32 × Int32) (p1 : Int64) : CtI l yX3_putSum cX3_putSum 4 (some .int) { frames := 1, cells := 0, slots := 0, locals := 23 } D [.ref a_this, .long p1] [(a_this, oX3 a_this_storage a_this_status a_this_channel a_this_registers a_this_first a_this_second o_this), (a_this_registers, .inl (k_this_registers, 16, .inl r_this_registers)), (a_this_status, oX5 o_this_status)] [(k_this_registers, .int)] (fun (r : Int32) (u : Int32 × (Nat → Int32) × (Int32 × Int32 × Int32 × Int32)) => f_X3_putSum o_this r_this_registers o_this_status p1 = u ∧ r = u.1) (fun u => [(a_this, oX3 a_this_storage a_this_status a_this_channel a_this_registers a_this_first a_this_second o_this), (a_this_registers, .inl (k_this_registers, 16, .inl u.2.1)), (a_this_status, oX5 u.2.2)]) := by
  refine CtI.of (by decide) (Nat.le_of_ble_eq_true rfl) ?_
  intro p e s m below meth c A ls Q hE hP hD hS hl hQ
  obtain ⟨hx, hb, hml, hown, ht, hN, hK, hA⟩ := hE
  have hown : s.vm.findClass RX3 = some m.cls := hown
  have hl : lv_has ls 4 [(0, .ref a_this), (1, .long p1)] := hl
  obtain ⟨F, hF⟩ : ∃ F, f_X3_putSum o_this r_this_registers o_this_status p1 = F := ⟨_, rfl⟩
  rw [hF] at hQ
  unfold f_X3_putSum at hF
  refine lv_lload_n hx hb dX3_putSum_0 rfl (lv_at hl 1 rfl) ?_
  refine lv_l2i hx hb dX3_putSum_1 rfl ?_
  refine lv_istore_n (lv' := [(3, .int p1.toInt32), (0, .ref a_this), (1, .long p1)]) hx hb dX3_putSum_2 rfl hl (by decide) rfl (fun ls hl => ?_)
  refine lv_aload_n hx hb dX3_putSum_3 rfl (lv_at hl 1 rfl) ?_
  refine lv_aload_n hx hb dX3_putSum_4 rfl (lv_at hl 1 rfl) ?_
  refine gf_X3_142 (v := .int o_this.2.2.2.2.2.2.1) hx hb hown ht hK hP 0 rfl rfl dX3_putSum_5 ?_
  refine lv_iload_n hx hb dX3_putSum_8 rfl (lv_at hl 0 rfl) ?_
  refine q_Vv (rest := []) (c_X3_putRegister l D a_this a_this_registers a_this_storage a_this_status a_this_channel a_this_first a_this_second k_this_registers o_this r_this_registers o_this.2.2.2.2.2.2.1 p1.toInt32) cv_X3_putRegister hx hb hml hown ht hN hK hA hP hD hS hl.1 (km_X3_206) ⟨Nat.le_of_ble_eq_true rfl, Nat.le_of_ble_eq_true rfl⟩ rfl rfl [0, 1] (by decide) rfl [0] rfl (fun _ => rfl) (ci := 3) rfl rfl rfl rfl rfl (Nat.le_of_ble_eq_true rfl) dX3_putSum_9 ⟨Nat.zero_le _, Nat.zero_le _⟩ (fun w_1 H locs hw hP hD hS => ?_)
  have hP : va_P D vwCl [(a_this, oX3 a_this_storage a_this_status a_this_channel a_this_registers a_this_first a_this_second o_this), (a_this_registers, .inl (k_this_registers, 16, .inl w_1)), (a_this_status, oX5 o_this_status)] H := hP
  have hD : va_D A [(a_this, oX3 a_this_storage a_this_status a_this_channel a_this_registers a_this_first a_this_second o_this), (a_this_registers, .inl (k_this_registers, 16, .inl w_1)), (a_this_status, oX5 o_this_status)] := hD
  rw [q_let_of hw] at hF
  refine lv_iload_n hx hb dX3_putSum_12 rfl (lv_at hl 0 rfl) ?_
  refine lv_i2l hx hb dX3_putSum_13 rfl ?_
  refine lv_lload_n hx hb dX3_putSum_14 rfl (lv_at hl 2 rfl) ?_
  refine W.lcmp hx hb dX3_putSum_15 ?_
  refine lv_if_ne (tgt := 34) hx hb dX3_putSum_16 (by decide) (fun c_2 => ?_) (fun c_2 => ?_)
  · skip
    rw [if_neg c_2] at hF
    refine lv_aload_n hx hb dX3_putSum_34 rfl (lv_at hl 1 rfl) ?_
    refine gf_X3_21 (v := .ref a_this_status) hx hb hown ht hK hP 0 rfl rfl dX3_putSum_35 ?_
    refine lv_iconst (v := 3) hx hb dX3_putSum_38 (by decide) ?_
    refine pf_X3_209 (x := 3) hx hb hown ht hK hP hD hS 2 rfl (Nat.le_of_ble_eq_true rfl) dX3_putSum_39 (fun H locs hP hD hS => ?_)
    have hP : va_P D vwCl [(a_this, oX3 a_this_storage a_this_status a_this_channel a_this_registers a_this_first a_this_second o_this), (a_this_registers, .inl (k_this_registers, 16, .inl w_1)), (a_this_status, oX5 (o_this_status.1, o_this_status.2.1, 3, o_this_status.2.2.2))] H := hP
    have hD : va_D A [(a_this, oX3 a_this_storage a_this_status a_this_channel a_this_registers a_this_first a_this_second o_this), (a_this_registers, .inl (k_this_registers, 16, .inl w_1)), (a_this_status, oX5 (o_this_status.1, o_this_status.2.1, 3, o_this_status.2.2.2))] := hD
    refine lv_aload_n hx hb dX3_putSum_42 rfl (lv_at hl 1 rfl) ?_
    refine gf_X3_21 (v := .ref a_this_status) hx hb hown ht hK hP 0 rfl rfl dX3_putSum_43 ?_
    refine lv_bipush (v := 8) hx hb dX3_putSum_46 (by decide) ?_
    refine q_Vi (rest := []) (c_X5_allows l D a_this_status (o_this_status.1, o_this_status.2.1, 3, o_this_status.2.2.2) 8) cv_X5_allows hx hb hml hown ht hN hK hA hP hD hS hl.1 (km_X3_90) ⟨Nat.le_of_ble_eq_true rfl, Nat.le_of_ble_eq_true rfl⟩ rfl rfl [2] (by decide) rfl [] rfl (fun _ => rfl) (ci := 5) rfl rfl rfl rfl rfl (Nat.le_of_ble_eq_true rfl) dX3_putSum_48 ⟨Nat.zero_le _, Nat.zero_le _⟩ (fun r u H locs hw hP hD hS => ?_)
    obtain ⟨rfl, rfl⟩ := hw
    have hP : va_P D vwCl [(a_this, oX3 a_this_storage a_this_status a_this_channel a_this_registers a_this_first a_this_second o_this), (a_this_registers, .inl (k_this_registers, 16, .inl w_1)), (a_this_status, oX5 (o_this_status.1, o_this_status.2.1, 3, o_this_status.2.2.2))] H := hP
    have hD : va_D A [(a_this, oX3 a_this_storage a_this_status a_this_channel a_this_registers a_this_first a_this_second o_this), (a_this_registers, .inl (k_this_registers, 16, .inl w_1)), (a_this_status, oX5 (o_this_status.1, o_this_status.2.1, 3, o_this_status.2.2.2))] := hD
    refine lv_if_eq (tgt := 59) hx hb dX3_putSum_51 (by decide) (fun c_4 => ?_) (fun c_4 => ?_)
    · have c_4 : ¬ (f_X5_allows (o_this_status.1, o_this_status.2.1, 3, o_this_status.2.2.2) 8) = true := by rw [(bI_eq0 _).mp c_4]; decide
      rw [if_neg c_4] at hF
      refine lv_iconst (v := 0) hx hb dX3_putSum_59 (by decide) ?_
      exact hQ 0 (0, w_1, (o_this_status.1, o_this_status.2.1, 3, o_this_status.2.2.2)) _ _ _ _ dX3_putSum_60 ⟨hF.symm, rfl⟩ hP hD hS
    · have c_4 := (bI_ne0 _).mp c_4
      rw [if_pos c_4] at hF
      refine lv_bipush (v := 8) hx hb dX3_putSum_54 (by decide) ?_
      refine lv_goto (tgt := 60) hx hb dX3_putSum_56 (by decide) ?_
      exact hQ 8 (8, w_1, (o_this_status.1, o_this_status.2.1, 3, o_this_status.2.2.2)) _ _ _ _ dX3_putSum_60 ⟨hF.symm, rfl⟩ hP hD hS
  · skip
    rw [if_pos c_2] at hF
    refine lv_aload_n hx hb dX3_putSum_19 rfl (lv_at hl 1 rfl) ?_
    refine gf_X3_21 (v := .ref a_this_status) hx hb hown ht hK hP 0 rfl rfl dX3_putSum_20 ?_
    refine lv_iload_n hx hb dX3_putSum_23 rfl (lv_at hl 0 rfl) ?_
    refine lv_i2l hx hb dX3_putSum_24 rfl ?_
    refine lv_lconst (v := 0) hx hb dX3_putSum_25 (by decide) ?_
    refine q_Ni (rest := [.ref a_this_status]) (c_X7_order l D p1.toInt32.toInt64 0) cv_X7_order hx hb hml hown ht hN hK hA hP hD hS hl.1 (hN.2.2) ⟨Nat.le_of_ble_eq_true rfl, Nat.le_of_ble_eq_true rfl⟩ rfl rfl [] (by decide) rfl [] rfl (fun _ => rfl) rfl rfl (Nat.le_of_ble_eq_true rfl) dX3_putSum_26 ⟨Nat.zero_le _, Nat.zero_le _⟩ (fun r u H locs hw hP hD hS => ?_)
    obtain ⟨rfl, rfl⟩ := hw
    have hP : va_P D vwCl [(a_this, oX3 a_this_storage a_this_status a_this_channel a_this_registers a_this_first a_this_second o_this), (a_this_registers, .inl (k_this_registers, 16, .inl w_1)), (a_this_status, oX5 o_this_status)] H := hP
    have hD : va_D A [(a_this, oX3 a_this_storage a_this_status a_this_channel a_this_registers a_this_first a_this_second o_this), (a_this_registers, .inl (k_this_registers, 16, .inl w_1)), (a_this_status, oX5 o_this_status)] := hD
    refine pf_X3_209 (x := (f_X7_order p1.toInt32.toInt64 0)) hx hb hown ht hK hP hD hS 2 rfl (Nat.le_of_ble_eq_true rfl) dX3_putSum_29 (fun H locs hP hD hS => ?_)
    have hP : va_P D vwCl [(a_this, oX3 a_this_storage a_this_status a_this_channel a_this_registers a_this_first a_this_second o_this), (a_this_registers, .inl (k_this_registers, 16, .inl w_1)), (a_this_status, oX5 (o_this_status.1, o_this_status.2.1, (f_X7_order p1.toInt32.toInt64 0), o_this_status.2.2.2))] H := hP
    have hD : va_D A [(a_this, oX3 a_this_storage a_this_status a_this_channel a_this_registers a_this_first a_this_second o_this), (a_this_registers, .inl (k_this_registers, 16, .inl w_1)), (a_this_status, oX5 (o_this_status.1, o_this_status.2.1, (f_X7_order p1.toInt32.toInt64 0), o_this_status.2.2.2))] := hD
    refine lv_iconst (v := 0) hx hb dX3_putSum_32 (by decide) ?_
    exact hQ 0 (0, w_1, (o_this_status.1, o_this_status.2.1, (f_X7_order p1.toInt32.toInt64 0), o_this_status.2.2.2)) _ _ _ _ dX3_putSum_33 ⟨hF.symm, rfl⟩ hP hD hS
theorem cv_X3_putSum : qV yX3_putSum cX3_putSum 4 (some .int) 1 := ⟨kc_X3_putSum, kt_X3_putSum, ks_X3_putSum, kn_X3, by decide, by decide +kernel⟩
def f_X3_combine (o_this : Bool × Int32 × Int32 × Int32 × Int32 × Int32 × Int32 × Int32 × Int32 × Int32) (r_this_registers : Nat → Int32) (o_this_status : Int32 × Int32 × Int32 × Int32) (p1 : Int32) : Int32 × (Nat → Int32) × (Int32 × Int32 × Int32 × Int32) := (if (o_this.2.2.2.2.1 &&& (15 : Int32)) = (8 : Int32) then (q_let (f_X3_putRegister r_this_registers o_this.2.2.2.2.2.2.1 p1) fun w_2 => (0, w_2, o_this_status)) else (if (o_this.2.2.2.2.1 &&& (15 : Int32)) = (9 : Int32) then (0, r_this_registers, (o_this_status.1, o_this_status.2.1, (f_X7_order ((f_X3_register r_this_registers o_this.2.2.2.2.2.2.1).toInt64) p1.toInt64), o_this_status.2.2.2)) else (if (o_this.2.2.2.2.1 &&& (15 : Int32)) = (10 : Int32) then (q_let (f_X3_putSum o_this r_this_registers o_this_status (((f_X3_register r_this_registers o_this.2.2.2.2.2.2.1).toInt64) + p1.toInt64)) fun w_8 => (w_8.1, w_8.2.1, w_8.2.2)) else (q_let (f_X3_putSum o_this r_this_registers o_this_status (((f_X3_register r_this_registers o_this.2.2.2.2.2.2.1).toInt64) - p1.toInt64)) fun w_10 => (w_10.1, w_10.2.1, w_10.2.2)))))
set_option linter.all false in
set_option maxHeartbeats 4000000 in
set_option maxRecDepth 100000 in
theorem c_X3_combine (l : Launch) (D : va_G) (a_this a_this_registers a_this_status a_this_storage a_this_channel a_this_first a_this_second : Nat) (k_this_registers : ClassId) (o_this : Bool × Int32 × Int32 × Int32 × Int32 × Int32 × Int32 × Int32 × Int32 × Int32) (r_this_registers : Nat → Int32) (o_this_status : Int32 × Int32 × Int32 × Int32) (p1 : Int32) : CtI l yX3_combine cX3_combine 2 (some .int) { frames := 2, cells := 0, slots := 0, locals := 46 } D [.ref a_this, .int p1] [(a_this, oX3 a_this_storage a_this_status a_this_channel a_this_registers a_this_first a_this_second o_this), (a_this_registers, .inl (k_this_registers, 16, .inl r_this_registers)), (a_this_status, oX5 o_this_status)] [(k_this_registers, .int)] (fun (r : Int32) (u : Int32 × (Nat → Int32) × (Int32 × Int32 × Int32 × Int32)) => f_X3_combine o_this r_this_registers o_this_status p1 = u ∧ r = u.1) (fun u => [(a_this, oX3 a_this_storage a_this_status a_this_channel a_this_registers a_this_first a_this_second o_this), (a_this_registers, .inl (k_this_registers, 16, .inl u.2.1)), (a_this_status, oX5 u.2.2)]) := by
  refine CtI.of (by decide) (Nat.le_of_ble_eq_true rfl) ?_
  intro p e s m below meth c A ls Q hE hP hD hS hl hQ
  obtain ⟨hx, hb, hml, hown, ht, hN, hK, hA⟩ := hE
  have hown : s.vm.findClass RX3 = some m.cls := hown
  have hl : lv_has ls 2 [(0, .ref a_this), (1, .int p1)] := hl
  obtain ⟨F, hF⟩ : ∃ F, f_X3_combine o_this r_this_registers o_this_status p1 = F := ⟨_, rfl⟩
  rw [hF] at hQ
  unfold f_X3_combine at hF
  refine lv_aload_n hx hb dX3_combine_0 rfl (lv_at hl 0 rfl) ?_
  refine gf_X3_61 (v := .int o_this.2.2.2.2.1) hx hb hown ht hK hP 0 rfl rfl dX3_combine_1 ?_
  refine lv_bipush (v := 15) hx hb dX3_combine_4 (by decide) ?_
  refine lv_iand hx hb dX3_combine_6 ?_
  rcases Classical.em ((o_this.2.2.2.2.1 &&& (15 : Int32)) = (8 : Int32)) with c_1 | c_1
  · rw [if_pos c_1] at hF
    refine lv_tableIn (off := 25) (tgt := 32) hx hb dX3_combine_7 (by rw [c_1]; decide) (by rw [c_1]; decide) (by rw [c_1]; decide) (by decide) ?_
    refine lv_aload_n hx hb dX3_combine_32 rfl (lv_at hl 0 rfl) ?_
    refine lv_aload_n hx hb dX3_combine_33 rfl (lv_at hl 0 rfl) ?_
    refine gf_X3_142 (v := .int o_this.2.2.2.2.2.2.1) hx hb hown ht hK hP 0 rfl rfl dX3_combine_34 ?_
    refine lv_iload_n hx hb dX3_combine_37 rfl (lv_at hl 1 rfl) ?_
    refine q_Vv (rest := []) (c_X3_putRegister l D a_this a_this_registers a_this_storage a_this_status a_this_channel a_this_first a_this_second k_this_registers o_this r_this_registers o_this.2.2.2.2.2.2.1 p1) cv_X3_putRegister hx hb hml hown ht hN hK hA hP hD hS hl.1 (km_X3_206) ⟨Nat.le_of_ble_eq_true rfl, Nat.le_of_ble_eq_true rfl⟩ rfl rfl [0, 1] (by decide) rfl [0] rfl (fun _ => rfl) (ci := 3) rfl rfl rfl rfl rfl (Nat.le_of_ble_eq_true rfl) dX3_combine_38 ⟨Nat.zero_le _, Nat.zero_le _⟩ (fun w_2 H locs hw hP hD hS => ?_)
    have hP : va_P D vwCl [(a_this, oX3 a_this_storage a_this_status a_this_channel a_this_registers a_this_first a_this_second o_this), (a_this_registers, .inl (k_this_registers, 16, .inl w_2)), (a_this_status, oX5 o_this_status)] H := hP
    have hD : va_D A [(a_this, oX3 a_this_storage a_this_status a_this_channel a_this_registers a_this_first a_this_second o_this), (a_this_registers, .inl (k_this_registers, 16, .inl w_2)), (a_this_status, oX5 o_this_status)] := hD
    rw [q_let_of hw] at hF
    refine lv_iconst (v := 0) hx hb dX3_combine_41 (by decide) ?_
    exact hQ 0 (0, w_2, o_this_status) _ _ _ _ dX3_combine_42 ⟨hF.symm, rfl⟩ hP hD hS
  · rw [if_neg c_1] at hF
    rcases Classical.em ((o_this.2.2.2.2.1 &&& (15 : Int32)) = (9 : Int32)) with c_3 | c_3
    · rw [if_pos c_3] at hF
      refine lv_tableIn (off := 36) (tgt := 43) hx hb dX3_combine_7 (by rw [c_3]; decide) (by rw [c_3]; decide) (by rw [c_3]; decide) (by decide) ?_
      refine lv_aload_n hx hb dX3_combine_43 rfl (lv_at hl 0 rfl) ?_
      refine gf_X3_21 (v := .ref a_this_status) hx hb hown ht hK hP 0 rfl rfl dX3_combine_44 ?_
      refine lv_aload_n hx hb dX3_combine_47 rfl (lv_at hl 0 rfl) ?_
      refine lv_aload_n hx hb dX3_combine_48 rfl (lv_at hl 0 rfl) ?_
      refine gf_X3_142 (v := .int o_this.2.2.2.2.2.2.1) hx hb hown ht hK hP 0 rfl rfl dX3_combine_49 ?_
      refine q_Vi (rest := [.ref a_this_status]) (c_X3_register l D a_this a_this_registers a_this_storage a_this_status a_this_channel a_this_first a_this_second k_this_registers o_this r_this_registers o_this.2.2.2.2.2.2.1) cv_X3_register hx hb hml hown ht hN hK hA hP hD hS hl.1 (km_X3_161) ⟨Nat.le_of_ble_eq_true rfl, Nat.le_of_ble_eq_true rfl⟩ rfl rfl [0, 1] (by decide) rfl [0] rfl (fun _ => rfl) (ci := 3) rfl rfl rfl rfl rfl (Nat.le_of_ble_eq_true rfl) dX3_combine_52 ⟨Nat.zero_le _, Nat.zero_le _⟩ (fun r u H locs hw hP hD hS => ?_)
      obtain ⟨rfl, rfl⟩ := hw
      have hP : va_P D vwCl [(a_this, oX3 a_this_storage a_this_status a_this_channel a_this_registers a_this_first a_this_second o_this), (a_this_registers, .inl (k_this_registers, 16, .inl r_this_registers)), (a_this_status, oX5 o_this_status)] H := hP
      have hD : va_D A [(a_this, oX3 a_this_storage a_this_status a_this_channel a_this_registers a_this_first a_this_second o_this), (a_this_registers, .inl (k_this_registers, 16, .inl r_this_registers)), (a_this_status, oX5 o_this_status)] := hD
      refine lv_i2l hx hb dX3_combine_55 rfl ?_
      refine lv_iload_n hx hb dX3_combine_56 rfl (lv_at hl 1 rfl) ?_
      refine lv_i2l hx hb dX3_combine_57 rfl ?_
      refine q_Ni (rest := [.ref a_this_status]) (c_X7_order l D ((f_X3_register r_this_registers o_this.2.2.2.2.2.2.1).toInt64) p1.toInt64) cv_X7_order hx hb hml hown ht hN hK hA hP hD hS hl.1 (hN.2.2) ⟨Nat.le_of_ble_eq_true rfl, Nat.le_of_ble_eq_true rfl⟩ rfl rfl [] (by decide) rfl [] rfl (fun _ => rfl) rfl rfl (Nat.le_of_ble_eq_true rfl) dX3_combine_58 ⟨Nat.zero_le _, Nat.zero_le _⟩ (fun r u H locs hw hP hD hS => ?_)
      obtain ⟨rfl, rfl⟩ := hw
      have hP : va_P D vwCl [(a_this, oX3 a_this_storage a_this_status a_this_channel a_this_registers a_this_first a_this_second o_this), (a_this_registers, .inl (k_this_registers, 16, .inl r_this_registers)), (a_this_status, oX5 o_this_status)] H := hP
      have hD : va_D A [(a_this, oX3 a_this_storage a_this_status a_this_channel a_this_registers a_this_first a_this_second o_this), (a_this_registers, .inl (k_this_registers, 16, .inl r_this_registers)), (a_this_status, oX5 o_this_status)] := hD
      refine pf_X3_209 (x := (f_X7_order ((f_X3_register r_this_registers o_this.2.2.2.2.2.2.1).toInt64) p1.toInt64)) hx hb hown ht hK hP hD hS 2 rfl (Nat.le_of_ble_eq_true rfl) dX3_combine_61 (fun H locs hP hD hS => ?_)
      have hP : va_P D vwCl [(a_this, oX3 a_this_storage a_this_status a_this_channel a_this_registers a_this_first a_this_second o_this), (a_this_registers, .inl (k_this_registers, 16, .inl r_this_registers)), (a_this_status, oX5 (o_this_status.1, o_this_status.2.1, (f_X7_order ((f_X3_register r_this_registers o_this.2.2.2.2.2.2.1).toInt64) p1.toInt64), o_this_status.2.2.2))] H := hP
      have hD : va_D A [(a_this, oX3 a_this_storage a_this_status a_this_channel a_this_registers a_this_first a_this_second o_this), (a_this_registers, .inl (k_this_registers, 16, .inl r_this_registers)), (a_this_status, oX5 (o_this_status.1, o_this_status.2.1, (f_X7_order ((f_X3_register r_this_registers o_this.2.2.2.2.2.2.1).toInt64) p1.toInt64), o_this_status.2.2.2))] := hD
      refine lv_iconst (v := 0) hx hb dX3_combine_64 (by decide) ?_
      exact hQ 0 (0, r_this_registers, (o_this_status.1, o_this_status.2.1, (f_X7_order ((f_X3_register r_this_registers o_this.2.2.2.2.2.2.1).toInt64) p1.toInt64), o_this_status.2.2.2)) _ _ _ _ dX3_combine_65 ⟨hF.symm, rfl⟩ hP hD hS
    · rw [if_neg c_3] at hF
      rcases Classical.em ((o_this.2.2.2.2.1 &&& (15 : Int32)) = (10 : Int32)) with c_6 | c_6
      · rw [if_pos c_6] at hF
        refine lv_tableIn (off := 59) (tgt := 66) hx hb dX3_combine_7 (by rw [c_6]; decide) (by rw [c_6]; decide) (by rw [c_6]; decide) (by decide) ?_
        refine lv_aload_n hx hb dX3_combine_66 rfl (lv_at hl 0 rfl) ?_
        refine lv_aload_n hx hb dX3_combine_67 rfl (lv_at hl 0 rfl) ?_
        refine lv_aload_n hx hb dX3_combine_68 rfl (lv_at hl 0 rfl) ?_
        refine gf_X3_142 (v := .int o_this.2.2.2.2.2.2.1) hx hb hown ht hK hP 0 rfl rfl dX3_combine_69 ?_
        refine q_Vi (rest := [.ref a_this]) (c_X3_register l D a_this a_this_registers a_this_storage a_this_status a_this_channel a_this_first a_this_second k_this_registers o_this r_this_registers o_this.2.2.2.2.2.2.1) cv_X3_register hx hb hml hown ht hN hK hA hP hD hS hl.1 (km_X3_161) ⟨Nat.le_of_ble_eq_true rfl, Nat.le_of_ble_eq_true rfl⟩ rfl rfl [0, 1] (by decide) rfl [0] rfl (fun _ => rfl) (ci := 3) rfl rfl rfl rfl rfl (Nat.le_of_ble_eq_true rfl) dX3_combine_72 ⟨Nat.zero_le _, Nat.zero_le _⟩ (fun r u H locs hw hP hD hS => ?_)
        obtain ⟨rfl, rfl⟩ := hw
        have hP : va_P D vwCl [(a_this, oX3 a_this_storage a_this_status a_this_channel a_this_registers a_this_first a_this_second o_this), (a_this_registers, .inl (k_this_registers, 16, .inl r_this_registers)), (a_this_status, oX5 o_this_status)] H := hP
        have hD : va_D A [(a_this, oX3 a_this_storage a_this_status a_this_channel a_this_registers a_this_first a_this_second o_this), (a_this_registers, .inl (k_this_registers, 16, .inl r_this_registers)), (a_this_status, oX5 o_this_status)] := hD
        refine lv_i2l hx hb dX3_combine_75 rfl ?_
        refine lv_iload_n hx hb dX3_combine_76 rfl (lv_at hl 1 rfl) ?_
        refine lv_i2l hx hb dX3_combine_77 rfl ?_
        refine lv_ladd hx hb dX3_combine_78 ?_
        refine q_Vi (rest := []) (c_X3_putSum l D a_this a_this_registers a_this_status a_this_storage a_this_channel a_this_first a_this_second k_this_registers o_this r_this_registers o_this_status (((f_X3_register r_this_registers o_this.2.2.2.2.2.2.1).toInt64) + p1.toInt64)) cv_X3_putSum hx hb hml hown ht hN hK hA hP hD hS hl.1 (km_X3_225) ⟨Nat.le_of_ble_eq_true rfl, Nat.le_of_ble_eq_true rfl⟩ rfl rfl [0, 1, 2] (by decide) rfl [0] rfl (fun _ => rfl) (ci := 3) rfl rfl rfl rfl rfl (Nat.le_of_ble_eq_true rfl) dX3_combine_79 ⟨Nat.zero_le _, Nat.zero_le _⟩ (fun r w_8 H locs hw hP hD hS => ?_)
        obtain ⟨hw, hr⟩ := hw
        subst hr
        have hP : va_P D vwCl [(a_this, oX3 a_this_storage a_this_status a_this_channel a_this_registers a_this_first a_this_second o_this), (a_this_registers, .inl (k_this_registers, 16, .inl w_8.2.1)), (a_this_status, oX5 w_8.2.2)] H := hP
        have hD : va_D A [(a_this, oX3 a_this_storage a_this_status a_this_channel a_this_registers a_this_first a_this_second o_this), (a_this_registers, .inl (k_this_registers, 16, .inl w_8.2.1)), (a_this_status, oX5 w_8.2.2)] := hD
        rw [q_let_of hw] at hF
        exact hQ w_8.1 (w_8.1, w_8.2.1, w_8.2.2) _ _ _ _ dX3_combine_82 ⟨hF.symm, rfl⟩ hP hD hS
      · rw [if_neg c_6] at hF
        have hsw : ((o_this.2.2.2.2.1 &&& (15 : Int32))).toInt < 8 ∨ 10 < ((o_this.2.2.2.2.1 &&& (15 : Int32))).toInt := by
          have e0 := lv_neT c_1 (a := 8) (by decide)
          have e1 := lv_neT c_3 (a := 9) (by decide)
          have e2 := lv_neT c_6 (a := 10) (by decide)
          omega
        refine lv_tableOut (tgt := 83) hx hb dX3_combine_7 hsw (by decide) ?_
        refine lv_aload_n hx hb dX3_combine_83 rfl (lv_at hl 0 rfl) ?_
        refine lv_aload_n hx hb dX3_combine_84 rfl (lv_at hl 0 rfl) ?_
        refine lv_aload_n hx hb dX3_combine_85 rfl (lv_at hl 0 rfl) ?_
        refine gf_X3_142 (v := .int o_this.2.2.2.2.2.2.1) hx hb hown ht hK hP 0 rfl rfl dX3_combine_86 ?_
        refine q_Vi (rest := [.ref a_this]) (c_X3_register l D a_this a_this_registers a_this_storage a_this_status a_this_channel a_this_first a_this_second k_this_registers o_this r_this_registers o_this.2.2.2.2.2.2.1) cv_X3_register hx hb hml hown ht hN hK hA hP hD hS hl.1 (km_X3_161) ⟨Nat.le_of_ble_eq_true rfl, Nat.le_of_ble_eq_true rfl⟩ rfl rfl [0, 1] (by decide) rfl [0] rfl (fun _ => rfl) (ci := 3) rfl rfl rfl rfl rfl (Nat.le_of_ble_eq_true rfl) dX3_combine_89 ⟨Nat.zero_le _, Nat.zero_le _⟩ (fun r u H locs hw hP hD hS => ?_)
        obtain ⟨rfl, rfl⟩ := hw
        have hP : va_P D vwCl [(a_this, oX3 a_this_storage a_this_status a_this_channel a_this_registers a_this_first a_this_second o_this), (a_this_registers, .inl (k_this_registers, 16, .inl r_this_registers)), (a_this_status, oX5 o_this_status)] H := hP
        have hD : va_D A [(a_this, oX3 a_this_storage a_this_status a_this_channel a_this_registers a_this_first a_this_second o_this), (a_this_registers, .inl (k_this_registers, 16, .inl r_this_registers)), (a_this_status, oX5 o_this_status)] := hD
        refine lv_i2l hx hb dX3_combine_92 rfl ?_
        refine lv_iload_n hx hb dX3_combine_93 rfl (lv_at hl 1 rfl) ?_
        refine lv_i2l hx hb dX3_combine_94 rfl ?_
        refine lv_lsub hx hb dX3_combine_95 ?_
        refine q_Vi (rest := []) (c_X3_putSum l D a_this a_this_registers a_this_status a_this_storage a_this_channel a_this_first a_this_second k_this_registers o_this r_this_registers o_this_status (((f_X3_register r_this_registers o_this.2.2.2.2.2.2.1).toInt64) - p1.toInt64)) cv_X3_putSum hx hb hml hown ht hN hK hA hP hD hS hl.1 (km_X3_225) ⟨Nat.le_of_ble_eq_true rfl, Nat.le_of_ble_eq_true rfl⟩ rfl rfl [0, 1, 2] (by decide) rfl [0] rfl (fun _ => rfl) (ci := 3) rfl rfl rfl rfl rfl (Nat.le_of_ble_eq_true rfl) dX3_combine_96 ⟨Nat.zero_le _, Nat.zero_le _⟩ (fun r w_10 H locs hw hP hD hS => ?_)
        obtain ⟨hw, hr⟩ := hw
        subst hr
        have hP : va_P D vwCl [(a_this, oX3 a_this_storage a_this_status a_this_channel a_this_registers a_this_first a_this_second o_this), (a_this_registers, .inl (k_this_registers, 16, .inl w_10.2.1)), (a_this_status, oX5 w_10.2.2)] H := hP
        have hD : va_D A [(a_this, oX3 a_this_storage a_this_status a_this_channel a_this_registers a_this_first a_this_second o_this), (a_this_registers, .inl (k_this_registers, 16, .inl w_10.2.1)), (a_this_status, oX5 w_10.2.2)] := hD
        rw [q_let_of hw] at hF
        exact hQ w_10.1 (w_10.1, w_10.2.1, w_10.2.2) _ _ _ _ dX3_combine_99 ⟨hF.symm, rfl⟩ hP hD hS
theorem cv_X3_combine : qV yX3_combine cX3_combine 2 (some .int) 1 := ⟨kc_X3_combine, kt_X3_combine, ks_X3_combine, kn_X3, by decide, by decide +kernel⟩
def f_X3_multiply (o_this : Bool × Int32 × Int32 × Int32 × Int32 × Int32 × Int32 × Int32 × Int32 × Int32) (r_this_registers : Nat → Int32) : Int32 × (Nat → Int32) := (if (o_this.2.2.2.2.2.2.1 - o_this.2.2.2.2.2.2.1 / (2 : Int32) * (2 : Int32)) = 0 then (q_let (f_X3_putRegister r_this_registers o_this.2.2.2.2.2.2.1 (((((f_X3_register r_this_registers (o_this.2.2.2.2.2.2.1 + (1 : Int32))).toInt64) * ((f_X3_register r_this_registers o_this.2.2.2.2.2.2.2.1).toInt64)) >>> ((32 : Int32).toInt64 &&& 63)).toInt32)) fun w_4 => (q_let (f_X3_putRegister w_4 (o_this.2.2.2.2.2.2.1 + (1 : Int32)) ((((f_X3_register r_this_registers (o_this.2.2.2.2.2.2.1 + (1 : Int32))).toInt64) * ((f_X3_register r_this_registers o_this.2.2.2.2.2.2.2.1).toInt64)).toInt32)) fun w_5 => (0, w_5))) else (6, r_this_registers))
set_option linter.all false in
set_option maxHeartbeats 4000000 in
set_option maxRecDepth 100000 in
theorem c_X3_multiply (l : Launch) (D : va_G) (a_this a_this_registers a_this_storage a_this_status a_this_channel a_this_first a_this_second : Nat) (k_this_registers : ClassId) (o_this : Bool × Int32 × Int32 × Int32 × Int32 × Int32 × Int32 × Int32 × Int32 × Int32) (r_this_registers : Nat → Int32) : CtI l yX3_multiply cX3_multiply 3 (some .int) { frames := 1, cells := 0, slots := 0, locals := 22 } D [.ref a_this] [(a_this, oX3 a_this_storage a_this_status a_this_channel a_this_registers a_this_first a_this_second o_this), (a_this_registers, .inl (k_this_registers, 16, .inl r_this_registers))] [(k_this_registers, .int)] (fun (r : Int32) (u : Int32 × (Nat → Int32)) => f_X3_multiply o_this r_this_registers = u ∧ r = u.1) (fun u => [(a_this, oX3 a_this_storage a_this_status a_this_channel a_this_registers a_this_first a_this_second o_this), (a_this_registers, .inl (k_this_registers, 16, .inl u.2))]) := by
  refine CtI.of (by decide) (Nat.le_of_ble_eq_true rfl) ?_
  intro p e s m below meth c A ls Q hE hP hD hS hl hQ
  obtain ⟨hx, hb, hml, hown, ht, hN, hK, hA⟩ := hE
  have hown : s.vm.findClass RX3 = some m.cls := hown
  have hl : lv_has ls 3 [(0, .ref a_this)] := hl
  obtain ⟨F, hF⟩ : ∃ F, f_X3_multiply o_this r_this_registers = F := ⟨_, rfl⟩
  rw [hF] at hQ
  unfold f_X3_multiply at hF
  refine lv_aload_n hx hb dX3_multiply_0 rfl (lv_at hl 0 rfl) ?_
  refine gf_X3_142 (v := .int o_this.2.2.2.2.2.2.1) hx hb hown ht hK hP 0 rfl rfl dX3_multiply_1 ?_
  refine lv_iconst (v := 2) hx hb dX3_multiply_4 (by decide) ?_
  refine lv_irem hx hb dX3_multiply_5 (by decide) ?_
  refine lv_if_eq (tgt := 12) hx hb dX3_multiply_6 (by decide) (fun c_1 => ?_) (fun c_1 => ?_)
  · skip
    rw [if_pos c_1] at hF
    refine lv_aload_n hx hb dX3_multiply_12 rfl (lv_at hl 0 rfl) ?_
    refine lv_aload_n hx hb dX3_multiply_13 rfl (lv_at hl 0 rfl) ?_
    refine gf_X3_142 (v := .int o_this.2.2.2.2.2.2.1) hx hb hown ht hK hP 0 rfl rfl dX3_multiply_14 ?_
    refine lv_iconst (v := 1) hx hb dX3_multiply_17 (by decide) ?_
    refine lv_iadd hx hb dX3_multiply_18 ?_
    refine q_Vi (rest := []) (c_X3_register l D a_this a_this_registers a_this_storage a_this_status a_this_channel a_this_first a_this_second k_this_registers o_this r_this_registers (o_this.2.2.2.2.2.2.1 + (1 : Int32))) cv_X3_register hx hb hml hown ht hN hK hA hP hD hS hl.1 (km_X3_161) ⟨Nat.le_of_ble_eq_true rfl, Nat.le_of_ble_eq_true rfl⟩ rfl rfl [0, 1] (by decide) rfl [0] rfl (fun _ => rfl) (ci := 3) rfl rfl rfl rfl rfl (Nat.le_of_ble_eq_true rfl) dX3_multiply_19 ⟨Nat.zero_le _, Nat.zero_le _⟩ (fun r u H locs hw hP hD hS => ?_)
    obtain ⟨rfl, rfl⟩ := hw
    have hP : va_P D vwCl [(a_this, oX3 a_this_storage a_this_status a_this_channel a_this_registers a_this_first a_this_second o_this), (a_this_registers, .inl (k_this_registers, 16, .inl r_this_registers))] H := hP
    have hD : va_D A [(a_this, oX3 a_this_storage a_this_status a_this_channel a_this_registers a_this_first a_this_second o_this), (a_this_registers, .inl (k_this_registers, 16, .inl r_this_registers))] := hD
    refine lv_i2l hx hb dX3_multiply_22 rfl ?_
    refine lv_aload_n hx hb dX3_multiply_23 rfl (lv_at hl 0 rfl) ?_
    refine lv_aload_n hx hb dX3_multiply_24 rfl (lv_at hl 0 rfl) ?_
    refine gf_X3_145 (v := .int o_this.2.2.2.2.2.2.2.1) hx hb hown ht hK hP 0 rfl rfl dX3_multiply_25 ?_
    refine q_Vi (rest := [.long ((f_X3_register r_this_registers (o_this.2.2.2.2.2.2.1 + (1 : Int32))).toInt64)]) (c_X3_register l D a_this a_this_registers a_this_storage a_this_status a_this_channel a_this_first a_this_second k_this_registers o_this r_this_registers o_this.2.2.2.2.2.2.2.1) cv_X3_register hx hb hml hown ht hN hK hA hP hD hS hl.1 (km_X3_161) ⟨Nat.le_of_ble_eq_true rfl, Nat.le_of_ble_eq_true rfl⟩ rfl rfl [0, 1] (by decide) rfl [0] rfl (fun _ => rfl) (ci := 3) rfl rfl rfl rfl rfl (Nat.le_of_ble_eq_true rfl) dX3_multiply_28 ⟨Nat.zero_le _, Nat.zero_le _⟩ (fun r u H locs hw hP hD hS => ?_)
    obtain ⟨rfl, rfl⟩ := hw
    have hP : va_P D vwCl [(a_this, oX3 a_this_storage a_this_status a_this_channel a_this_registers a_this_first a_this_second o_this), (a_this_registers, .inl (k_this_registers, 16, .inl r_this_registers))] H := hP
    have hD : va_D A [(a_this, oX3 a_this_storage a_this_status a_this_channel a_this_registers a_this_first a_this_second o_this), (a_this_registers, .inl (k_this_registers, 16, .inl r_this_registers))] := hD
    refine lv_i2l hx hb dX3_multiply_31 rfl ?_
    refine lv_lmul hx hb dX3_multiply_32 ?_
    refine lv_lstore_n (lv' := [(1, .long (((f_X3_register r_this_registers (o_this.2.2.2.2.2.2.1 + (1 : Int32))).toInt64) * ((f_X3_register r_this_registers o_this.2.2.2.2.2.2.2.1).toInt64))), (0, .ref a_this)]) hx hb dX3_multiply_33 rfl hl (by decide) rfl (fun ls hl => ?_)
    refine lv_aload_n hx hb dX3_multiply_34 rfl (lv_at hl 1 rfl) ?_
    refine lv_aload_n hx hb dX3_multiply_35 rfl (lv_at hl 1 rfl) ?_
    refine gf_X3_142 (v := .int o_this.2.2.2.2.2.2.1) hx hb hown ht hK hP 0 rfl rfl dX3_multiply_36 ?_
    refine lv_lload_n hx hb dX3_multiply_39 rfl (lv_at hl 0 rfl) ?_
    refine lv_bipush (v := 32) hx hb dX3_multiply_40 (by decide) ?_
    refine lv_lshr hx hb dX3_multiply_42 rfl ?_
    refine lv_l2i hx hb dX3_multiply_43 rfl ?_
    refine q_Vv (rest := []) (c_X3_putRegister l D a_this a_this_registers a_this_storage a_this_status a_this_channel a_this_first a_this_second k_this_registers o_this r_this_registers o_this.2.2.2.2.2.2.1 (((((f_X3_register r_this_registers (o_this.2.2.2.2.2.2.1 + (1 : Int32))).toInt64) * ((f_X3_register r_this_registers o_this.2.2.2.2.2.2.2.1).toInt64)) >>> ((32 : Int32).toInt64 &&& 63)).toInt32)) cv_X3_putRegister hx hb hml hown ht hN hK hA hP hD hS hl.1 (km_X3_206) ⟨Nat.le_of_ble_eq_true rfl, Nat.le_of_ble_eq_true rfl⟩ rfl rfl [0, 1] (by decide) rfl [0] rfl (fun _ => rfl) (ci := 3) rfl rfl rfl rfl rfl (Nat.le_of_ble_eq_true rfl) dX3_multiply_44 ⟨Nat.zero_le _, Nat.zero_le _⟩ (fun w_4 H locs hw hP hD hS => ?_)
    have hP : va_P D vwCl [(a_this, oX3 a_this_storage a_this_status a_this_channel a_this_registers a_this_first a_this_second o_this), (a_this_registers, .inl (k_this_registers, 16, .inl w_4))] H := hP
    have hD : va_D A [(a_this, oX3 a_this_storage a_this_status a_this_channel a_this_registers a_this_first a_this_second o_this), (a_this_registers, .inl (k_this_registers, 16, .inl w_4))] := hD
    rw [q_let_of hw] at hF
    refine lv_aload_n hx hb dX3_multiply_47 rfl (lv_at hl 1 rfl) ?_
    refine lv_aload_n hx hb dX3_multiply_48 rfl (lv_at hl 1 rfl) ?_
    refine gf_X3_142 (v := .int o_this.2.2.2.2.2.2.1) hx hb hown ht hK hP 0 rfl rfl dX3_multiply_49 ?_
    refine lv_iconst (v := 1) hx hb dX3_multiply_52 (by decide) ?_
    refine lv_iadd hx hb dX3_multiply_53 ?_
    refine lv_lload_n hx hb dX3_multiply_54 rfl (lv_at hl 0 rfl) ?_
    refine lv_l2i hx hb dX3_multiply_55 rfl ?_
    refine q_Vv (rest := []) (c_X3_putRegister l D a_this a_this_registers a_this_storage a_this_status a_this_channel a_this_first a_this_second k_this_registers o_this w_4 (o_this.2.2.2.2.2.2.1 + (1 : Int32)) ((((f_X3_register r_this_registers (o_this.2.2.2.2.2.2.1 + (1 : Int32))).toInt64) * ((f_X3_register r_this_registers o_this.2.2.2.2.2.2.2.1).toInt64)).toInt32)) cv_X3_putRegister hx hb hml hown ht hN hK hA hP hD hS hl.1 (km_X3_206) ⟨Nat.le_of_ble_eq_true rfl, Nat.le_of_ble_eq_true rfl⟩ rfl rfl [0, 1] (by decide) rfl [0] rfl (fun _ => rfl) (ci := 3) rfl rfl rfl rfl rfl (Nat.le_of_ble_eq_true rfl) dX3_multiply_56 ⟨Nat.zero_le _, Nat.zero_le _⟩ (fun w_5 H locs hw hP hD hS => ?_)
    have hP : va_P D vwCl [(a_this, oX3 a_this_storage a_this_status a_this_channel a_this_registers a_this_first a_this_second o_this), (a_this_registers, .inl (k_this_registers, 16, .inl w_5))] H := hP
    have hD : va_D A [(a_this, oX3 a_this_storage a_this_status a_this_channel a_this_registers a_this_first a_this_second o_this), (a_this_registers, .inl (k_this_registers, 16, .inl w_5))] := hD
    rw [q_let_of hw] at hF
    refine lv_iconst (v := 0) hx hb dX3_multiply_59 (by decide) ?_
    exact hQ 0 (0, w_5) _ _ _ _ dX3_multiply_60 ⟨hF.symm, rfl⟩ hP hD hS
  · skip
    rw [if_neg c_1] at hF
    refine lv_bipush (v := 6) hx hb dX3_multiply_9 (by decide) ?_
    exact hQ 6 (6, r_this_registers) _ _ _ _ dX3_multiply_11 ⟨hF.symm, rfl⟩ hP hD hS
theorem cv_X3_multiply : qV yX3_multiply cX3_multiply 3 (some .int) 0 := ⟨kc_X3_multiply, kt_X3_multiply, ks_X3_multiply, kn_X3, by decide, by decide +kernel⟩
def f_X3_divide (o_this : Bool × Int32 × Int32 × Int32 × Int32 × Int32 × Int32 × Int32 × Int32 × Int32) (r_this_registers : Nat → Int32) : Int32 × (Nat → Int32) := (if (o_this.2.2.2.2.2.2.1 - o_this.2.2.2.2.2.2.1 / (2 : Int32) * (2 : Int32)) = 0 then (if (lg_cmp ((f_X3_register r_this_registers o_this.2.2.2.2.2.2.2.1).toInt64) 0) = 0 then (9, r_this_registers) else (if (lg_cmp (((((f_X3_register r_this_registers o_this.2.2.2.2.2.2.1).toInt64) <<< ((32 : Int32).toInt64 &&& 63)) ||| (((f_X3_register r_this_registers (o_this.2.2.2.2.2.2.1 + (1 : Int32))).toInt64) &&& (4294967295 : Int64))) / ((f_X3_register r_this_registers o_this.2.2.2.2.2.2.2.1).toInt64)) (((((((f_X3_register r_this_registers o_this.2.2.2.2.2.2.1).toInt64) <<< ((32 : Int32).toInt64 &&& 63)) ||| (((f_X3_register r_this_registers (o_this.2.2.2.2.2.2.1 + (1 : Int32))).toInt64) &&& (4294967295 : Int64))) / ((f_X3_register r_this_registers o_this.2.2.2.2.2.2.2.1).toInt64)).toInt32).toInt64)) = 0 then (q_let (f_X3_putRegister r_this_registers o_this.2.2.2.2.2.2.1 ((((((f_X3_register r_this_registers o_this.2.2.2.2.2.2.1).toInt64) <<< ((32 : Int32).toInt64 &&& 63)) ||| (((f_X3_register r_this_registers (o_this.2.2.2.2.2.2.1 + (1 : Int32))).toInt64) &&& (4294967295 : Int64))) - ((((f_X3_register r_this_registers o_this.2.2.2.2.2.2.1).toInt64) <<< ((32 : Int32).toInt64 &&& 63)) ||| (((f_X3_register r_this_registers (o_this.2.2.2.2.2.2.1 + (1 : Int32))).toInt64) &&& (4294967295 : Int64))) / ((f_X3_register r_this_registers o_this.2.2.2.2.2.2.2.1).toInt64) * ((f_X3_register r_this_registers o_this.2.2.2.2.2.2.2.1).toInt64)).toInt32)) fun w_7 => (q_let (f_X3_putRegister w_7 (o_this.2.2.2.2.2.2.1 + (1 : Int32)) ((((((f_X3_register r_this_registers o_this.2.2.2.2.2.2.1).toInt64) <<< ((32 : Int32).toInt64 &&& 63)) ||| (((f_X3_register r_this_registers (o_this.2.2.2.2.2.2.1 + (1 : Int32))).toInt64) &&& (4294967295 : Int64))) / ((f_X3_register r_this_registers o_this.2.2.2.2.2.2.2.1).toInt64)).toInt32)) fun w_8 => (0, w_8))) else (9, r_this_registers))) else (6, r_this_registers))
set_option linter.all false in
set_option maxHeartbeats 4000000 in
set_option maxRecDepth 100000 in
theorem c_X3_divide (l : Launch) (D : va_G) (a_this a_this_registers a_this_storage a_this_status a_this_channel a_this_first a_this_second : Nat) (k_this_registers : ClassId) (o_this : Bool × Int32 × Int32 × Int32 × Int32 × Int32 × Int32 × Int32 × Int32 × Int32) (r_this_registers : Nat → Int32) : CtI l yX3_divide cX3_divide 7 (some .int) { frames := 1, cells := 0, slots := 0, locals := 22 } D [.ref a_this] [(a_this, oX3 a_this_storage a_this_status a_this_channel a_this_registers a_this_first a_this_second o_this), (a_this_registers, .inl (k_this_registers, 16, .inl r_this_registers))] [(k_this_registers, .int)] (fun (r : Int32) (u : Int32 × (Nat → Int32)) => f_X3_divide o_this r_this_registers = u ∧ r = u.1) (fun u => [(a_this, oX3 a_this_storage a_this_status a_this_channel a_this_registers a_this_first a_this_second o_this), (a_this_registers, .inl (k_this_registers, 16, .inl u.2))]) := by
  refine CtI.of (by decide) (Nat.le_of_ble_eq_true rfl) ?_
  intro p e s m below meth c A ls Q hE hP hD hS hl hQ
  obtain ⟨hx, hb, hml, hown, ht, hN, hK, hA⟩ := hE
  have hown : s.vm.findClass RX3 = some m.cls := hown
  have hl : lv_has ls 7 [(0, .ref a_this)] := hl
  obtain ⟨F, hF⟩ : ∃ F, f_X3_divide o_this r_this_registers = F := ⟨_, rfl⟩
  rw [hF] at hQ
  unfold f_X3_divide at hF
  refine lv_aload_n hx hb dX3_divide_0 rfl (lv_at hl 0 rfl) ?_
  refine gf_X3_142 (v := .int o_this.2.2.2.2.2.2.1) hx hb hown ht hK hP 0 rfl rfl dX3_divide_1 ?_
  refine lv_iconst (v := 2) hx hb dX3_divide_4 (by decide) ?_
  refine lv_irem hx hb dX3_divide_5 (by decide) ?_
  refine lv_if_eq (tgt := 12) hx hb dX3_divide_6 (by decide) (fun c_1 => ?_) (fun c_1 => ?_)
  · skip
    rw [if_pos c_1] at hF
    refine lv_aload_n hx hb dX3_divide_12 rfl (lv_at hl 0 rfl) ?_
    refine lv_aload_n hx hb dX3_divide_13 rfl (lv_at hl 0 rfl) ?_
    refine gf_X3_145 (v := .int o_this.2.2.2.2.2.2.2.1) hx hb hown ht hK hP 0 rfl rfl dX3_divide_14 ?_
    refine q_Vi (rest := []) (c_X3_register l D a_this a_this_registers a_this_storage a_this_status a_this_channel a_this_first a_this_second k_this_registers o_this r_this_registers o_this.2.2.2.2.2.2.2.1) cv_X3_register hx hb hml hown ht hN hK hA hP hD hS hl.1 (km_X3_161) ⟨Nat.le_of_ble_eq_true rfl, Nat.le_of_ble_eq_true rfl⟩ rfl rfl [0, 1] (by decide) rfl [0] rfl (fun _ => rfl) (ci := 3) rfl rfl rfl rfl rfl (Nat.le_of_ble_eq_true rfl) dX3_divide_17 ⟨Nat.zero_le _, Nat.zero_le _⟩ (fun r u H locs hw hP hD hS => ?_)
    obtain ⟨rfl, rfl⟩ := hw
    have hP : va_P D vwCl [(a_this, oX3 a_this_storage a_this_status a_this_channel a_this_registers a_this_first a_this_second o_this), (a_this_registers, .inl (k_this_registers, 16, .inl r_this_registers))] H := hP
    have hD : va_D A [(a_this, oX3 a_this_storage a_this_status a_this_channel a_this_registers a_this_first a_this_second o_this), (a_this_registers, .inl (k_this_registers, 16, .inl r_this_registers))] := hD
    refine lv_i2l hx hb dX3_divide_20 rfl ?_
    refine lv_lstore_n (lv' := [(1, .long ((f_X3_register r_this_registers o_this.2.2.2.2.2.2.2.1).toInt64)), (0, .ref a_this)]) hx hb dX3_divide_21 rfl hl (by decide) rfl (fun ls hl => ?_)
    refine lv_lload_n hx hb dX3_divide_22 rfl (lv_at hl 0 rfl) ?_
    refine lv_lconst (v := 0) hx hb dX3_divide_23 (by decide) ?_
    refine W.lcmp hx hb dX3_divide_24 ?_
    refine lv_if_ne (tgt := 31) hx hb dX3_divide_25 (by decide) (fun c_3 => ?_) (fun c_3 => ?_)
    · skip
      rw [if_neg c_3] at hF
      refine lv_aload_n hx hb dX3_divide_31 rfl (lv_at hl 1 rfl) ?_
      refine lv_aload_n hx hb dX3_divide_32 rfl (lv_at hl 1 rfl) ?_
      refine gf_X3_142 (v := .int o_this.2.2.2.2.2.2.1) hx hb hown ht hK hP 0 rfl rfl dX3_divide_33 ?_
      refine q_Vi (rest := []) (c_X3_register l D a_this a_this_registers a_this_storage a_this_status a_this_channel a_this_first a_this_second k_this_registers o_this r_this_registers o_this.2.2.2.2.2.2.1) cv_X3_register hx hb hml hown ht hN hK hA hP hD hS hl.1 (km_X3_161) ⟨Nat.le_of_ble_eq_true rfl, Nat.le_of_ble_eq_true rfl⟩ rfl rfl [0, 1] (by decide) rfl [0] rfl (fun _ => rfl) (ci := 3) rfl rfl rfl rfl rfl (Nat.le_of_ble_eq_true rfl) dX3_divide_36 ⟨Nat.zero_le _, Nat.zero_le _⟩ (fun r u H locs hw hP hD hS => ?_)
      obtain ⟨rfl, rfl⟩ := hw
      have hP : va_P D vwCl [(a_this, oX3 a_this_storage a_this_status a_this_channel a_this_registers a_this_first a_this_second o_this), (a_this_registers, .inl (k_this_registers, 16, .inl r_this_registers))] H := hP
      have hD : va_D A [(a_this, oX3 a_this_storage a_this_status a_this_channel a_this_registers a_this_first a_this_second o_this), (a_this_registers, .inl (k_this_registers, 16, .inl r_this_registers))] := hD
      refine lv_i2l hx hb dX3_divide_39 rfl ?_
      refine lv_bipush (v := 32) hx hb dX3_divide_40 (by decide) ?_
      refine lv_lshl hx hb dX3_divide_42 rfl ?_
      refine lv_aload_n hx hb dX3_divide_43 rfl (lv_at hl 1 rfl) ?_
      refine lv_aload_n hx hb dX3_divide_44 rfl (lv_at hl 1 rfl) ?_
      refine gf_X3_142 (v := .int o_this.2.2.2.2.2.2.1) hx hb hown ht hK hP 0 rfl rfl dX3_divide_45 ?_
      refine lv_iconst (v := 1) hx hb dX3_divide_48 (by decide) ?_
      refine lv_iadd hx hb dX3_divide_49 ?_
      refine q_Vi (rest := [.long (((f_X3_register r_this_registers o_this.2.2.2.2.2.2.1).toInt64) <<< ((32 : Int32).toInt64 &&& 63))]) (c_X3_register l D a_this a_this_registers a_this_storage a_this_status a_this_channel a_this_first a_this_second k_this_registers o_this r_this_registers (o_this.2.2.2.2.2.2.1 + (1 : Int32))) cv_X3_register hx hb hml hown ht hN hK hA hP hD hS hl.1 (km_X3_161) ⟨Nat.le_of_ble_eq_true rfl, Nat.le_of_ble_eq_true rfl⟩ rfl rfl [0, 1] (by decide) rfl [0] rfl (fun _ => rfl) (ci := 3) rfl rfl rfl rfl rfl (Nat.le_of_ble_eq_true rfl) dX3_divide_50 ⟨Nat.zero_le _, Nat.zero_le _⟩ (fun r u H locs hw hP hD hS => ?_)
      obtain ⟨rfl, rfl⟩ := hw
      have hP : va_P D vwCl [(a_this, oX3 a_this_storage a_this_status a_this_channel a_this_registers a_this_first a_this_second o_this), (a_this_registers, .inl (k_this_registers, 16, .inl r_this_registers))] H := hP
      have hD : va_D A [(a_this, oX3 a_this_storage a_this_status a_this_channel a_this_registers a_this_first a_this_second o_this), (a_this_registers, .inl (k_this_registers, 16, .inl r_this_registers))] := hD
      refine lv_i2l hx hb dX3_divide_53 rfl ?_
      refine lv_ldc2 (v := 4294967295) hx hb hown (ht _ kj_X3_229) dX3_divide_54 ?_
      refine lv_land hx hb dX3_divide_57 ?_
      refine lv_lor hx hb dX3_divide_58 ?_
      refine lv_lstore_n (lv' := [(3, .long ((((f_X3_register r_this_registers o_this.2.2.2.2.2.2.1).toInt64) <<< ((32 : Int32).toInt64 &&& 63)) ||| (((f_X3_register r_this_registers (o_this.2.2.2.2.2.2.1 + (1 : Int32))).toInt64) &&& (4294967295 : Int64)))), (1, .long ((f_X3_register r_this_registers o_this.2.2.2.2.2.2.2.1).toInt64)), (0, .ref a_this)]) hx hb dX3_divide_59 rfl hl (by decide) rfl (fun ls hl => ?_)
      refine lv_lload_n hx hb dX3_divide_60 rfl (lv_at hl 0 rfl) ?_
      refine lv_lload_n hx hb dX3_divide_61 rfl (lv_at hl 1 rfl) ?_
      refine lv_ldiv hx hb dX3_divide_62 (q_lcmp0 c_3) ?_
      refine lv_lstore (lv' := [(5, .long (((((f_X3_register r_this_registers o_this.2.2.2.2.2.2.1).toInt64) <<< ((32 : Int32).toInt64 &&& 63)) ||| (((f_X3_register r_this_registers (o_this.2.2.2.2.2.2.1 + (1 : Int32))).toInt64) &&& (4294967295 : Int64))) / ((f_X3_register r_this_registers o_this.2.2.2.2.2.2.2.1).toInt64))), (3, .long ((((f_X3_register r_this_registers o_this.2.2.2.2.2.2.1).toInt64) <<< ((32 : Int32).toInt64 &&& 63)) ||| (((f_X3_register r_this_registers (o_this.2.2.2.2.2.2.1 + (1 : Int32))).toInt64) &&& (4294967295 : Int64)))), (1, .long ((f_X3_register r_this_registers o_this.2.2.2.2.2.2.2.1).toInt64)), (0, .ref a_this)]) hx hb dX3_divide_63 hl (by decide) rfl (fun ls hl => ?_)
      refine lv_lload hx hb dX3_divide_65 (lv_at hl 0 rfl) ?_
      refine lv_lload hx hb dX3_divide_67 (lv_at hl 0 rfl) ?_
      refine lv_l2i hx hb dX3_divide_69 rfl ?_
      refine lv_i2l hx hb dX3_divide_70 rfl ?_
      refine W.lcmp hx hb dX3_divide_71 ?_
      refine lv_if_eq (tgt := 78) hx hb dX3_divide_72 (by decide) (fun c_6 => ?_) (fun c_6 => ?_)
      · skip
        rw [if_pos c_6] at hF
        refine lv_aload_n hx hb dX3_divide_78 rfl (lv_at hl 3 rfl) ?_
        refine lv_aload_n hx hb dX3_divide_79 rfl (lv_at hl 3 rfl) ?_
        refine gf_X3_142 (v := .int o_this.2.2.2.2.2.2.1) hx hb hown ht hK hP 0 rfl rfl dX3_divide_80 ?_
        refine lv_lload_n hx hb dX3_divide_83 rfl (lv_at hl 1 rfl) ?_
        refine lv_lload_n hx hb dX3_divide_84 rfl (lv_at hl 2 rfl) ?_
        refine lv_lrem hx hb dX3_divide_85 (q_lcmp0 c_3) ?_
        refine lv_l2i hx hb dX3_divide_86 rfl ?_
        refine q_Vv (rest := []) (c_X3_putRegister l D a_this a_this_registers a_this_storage a_this_status a_this_channel a_this_first a_this_second k_this_registers o_this r_this_registers o_this.2.2.2.2.2.2.1 ((((((f_X3_register r_this_registers o_this.2.2.2.2.2.2.1).toInt64) <<< ((32 : Int32).toInt64 &&& 63)) ||| (((f_X3_register r_this_registers (o_this.2.2.2.2.2.2.1 + (1 : Int32))).toInt64) &&& (4294967295 : Int64))) - ((((f_X3_register r_this_registers o_this.2.2.2.2.2.2.1).toInt64) <<< ((32 : Int32).toInt64 &&& 63)) ||| (((f_X3_register r_this_registers (o_this.2.2.2.2.2.2.1 + (1 : Int32))).toInt64) &&& (4294967295 : Int64))) / ((f_X3_register r_this_registers o_this.2.2.2.2.2.2.2.1).toInt64) * ((f_X3_register r_this_registers o_this.2.2.2.2.2.2.2.1).toInt64)).toInt32)) cv_X3_putRegister hx hb hml hown ht hN hK hA hP hD hS hl.1 (km_X3_206) ⟨Nat.le_of_ble_eq_true rfl, Nat.le_of_ble_eq_true rfl⟩ rfl rfl [0, 1] (by decide) rfl [0] rfl (fun _ => rfl) (ci := 3) rfl rfl rfl rfl rfl (Nat.le_of_ble_eq_true rfl) dX3_divide_87 ⟨Nat.zero_le _, Nat.zero_le _⟩ (fun w_7 H locs hw hP hD hS => ?_)
        have hP : va_P D vwCl [(a_this, oX3 a_this_storage a_this_status a_this_channel a_this_registers a_this_first a_this_second o_this), (a_this_registers, .inl (k_this_registers, 16, .inl w_7))] H := hP
        have hD : va_D A [(a_this, oX3 a_this_storage a_this_status a_this_channel a_this_registers a_this_first a_this_second o_this), (a_this_registers, .inl (k_this_registers, 16, .inl w_7))] := hD
        rw [q_let_of hw] at hF
        refine lv_aload_n hx hb dX3_divide_90 rfl (lv_at hl 3 rfl) ?_
        refine lv_aload_n hx hb dX3_divide_91 rfl (lv_at hl 3 rfl) ?_
        refine gf_X3_142 (v := .int o_this.2.2.2.2.2.2.1) hx hb hown ht hK hP 0 rfl rfl dX3_divide_92 ?_
        refine lv_iconst (v := 1) hx hb dX3_divide_95 (by decide) ?_
        refine lv_iadd hx hb dX3_divide_96 ?_
        refine lv_lload hx hb dX3_divide_97 (lv_at hl 0 rfl) ?_
        refine lv_l2i hx hb dX3_divide_99 rfl ?_
        refine q_Vv (rest := []) (c_X3_putRegister l D a_this a_this_registers a_this_storage a_this_status a_this_channel a_this_first a_this_second k_this_registers o_this w_7 (o_this.2.2.2.2.2.2.1 + (1 : Int32)) ((((((f_X3_register r_this_registers o_this.2.2.2.2.2.2.1).toInt64) <<< ((32 : Int32).toInt64 &&& 63)) ||| (((f_X3_register r_this_registers (o_this.2.2.2.2.2.2.1 + (1 : Int32))).toInt64) &&& (4294967295 : Int64))) / ((f_X3_register r_this_registers o_this.2.2.2.2.2.2.2.1).toInt64)).toInt32)) cv_X3_putRegister hx hb hml hown ht hN hK hA hP hD hS hl.1 (km_X3_206) ⟨Nat.le_of_ble_eq_true rfl, Nat.le_of_ble_eq_true rfl⟩ rfl rfl [0, 1] (by decide) rfl [0] rfl (fun _ => rfl) (ci := 3) rfl rfl rfl rfl rfl (Nat.le_of_ble_eq_true rfl) dX3_divide_100 ⟨Nat.zero_le _, Nat.zero_le _⟩ (fun w_8 H locs hw hP hD hS => ?_)
        have hP : va_P D vwCl [(a_this, oX3 a_this_storage a_this_status a_this_channel a_this_registers a_this_first a_this_second o_this), (a_this_registers, .inl (k_this_registers, 16, .inl w_8))] H := hP
        have hD : va_D A [(a_this, oX3 a_this_storage a_this_status a_this_channel a_this_registers a_this_first a_this_second o_this), (a_this_registers, .inl (k_this_registers, 16, .inl w_8))] := hD
        rw [q_let_of hw] at hF
        refine lv_iconst (v := 0) hx hb dX3_divide_103 (by decide) ?_
        exact hQ 0 (0, w_8) _ _ _ _ dX3_divide_104 ⟨hF.symm, rfl⟩ hP hD hS
      · skip
        rw [if_neg c_6] at hF
        refine lv_bipush (v := 9) hx hb dX3_divide_75 (by decide) ?_
        exact hQ 9 (9, r_this_registers) _ _ _ _ dX3_divide_77 ⟨hF.symm, rfl⟩ hP hD hS
    · skip
      rw [if_pos c_3] at hF
      refine lv_bipush (v := 9) hx hb dX3_divide_28 (by decide) ?_
      exact hQ 9 (9, r_this_registers) _ _ _ _ dX3_divide_30 ⟨hF.symm, rfl⟩ hP hD hS
  · skip
    rw [if_neg c_1] at hF
    refine lv_bipush (v := 6) hx hb dX3_divide_9 (by decide) ?_
    exact hQ 6 (6, r_this_registers) _ _ _ _ dX3_divide_11 ⟨hF.symm, rfl⟩ hP hD hS
theorem cv_X3_divide : qV yX3_divide cX3_divide 7 (some .int) 0 := ⟨kc_X3_divide, kt_X3_divide, ks_X3_divide, kn_X3, by decide, by decide +kernel⟩
