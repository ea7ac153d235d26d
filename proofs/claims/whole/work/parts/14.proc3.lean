
def f_X3_faultOfPair (o_this : Bool × Int32 × Int32 × Int32 × Int32 × Int32 × Int32 × Int32 × Int32 × Int32) (p1 : Int32) (p2 : Int32) : Int32 := (if p1 = 0 then (f_X3_readFault o_this.2.2.2.2.2.2.2.2.2 p2 1) else p1)
set_option linter.all false in
set_option maxHeartbeats 4000000 in
set_option maxRecDepth 100000 in
theorem c_X3_faultOfPair (l : Launch) (D : va_G) (a_this a_this_storage a_this_status a_this_channel a_this_registers a_this_first a_this_second : Nat) (o_this : Bool × Int32 × Int32 × Int32 × Int32 × Int32 × Int32 × Int32 × Int32 × Int32) (p1 : Int32) (p2 : Int32) : CtI l yX3_faultOfPair cX3_faultOfPair 3 (some .int) { frames := 2, cells := 0, slots := 0, locals := 43 } D [.ref a_this, .int p1, .int p2] [(a_this, oX3 a_this_storage a_this_status a_this_channel a_this_registers a_this_first a_this_second o_this)] [] (fun (r : Int32) (u : Int32) => f_X3_faultOfPair o_this p1 p2 = u ∧ r = u) (fun u => [(a_this, oX3 a_this_storage a_this_status a_this_channel a_this_registers a_this_first a_this_second o_this)]) := by
  refine CtI.of (by decide) (Nat.le_of_ble_eq_true rfl) ?_
  intro p e s m below meth c A ls Q hE hP hD hS hl hQ
  obtain ⟨hx, hb, hml, hown, ht, hN, hK, hA⟩ := hE
  have hown : s.vm.findClass RX3 = some m.cls := hown
  have hl : lv_has ls 3 [(0, .ref a_this), (1, .int p1), (2, .int p2)] := hl
  obtain ⟨F, hF⟩ : ∃ F, f_X3_faultOfPair o_this p1 p2 = F := ⟨_, rfl⟩
  rw [hF] at hQ
  unfold f_X3_faultOfPair at hF
  refine lv_iload_n hx hb dX3_faultOfPair_0 rfl (lv_at hl 1 rfl) ?_
  refine lv_if_ne (tgt := 16) hx hb dX3_faultOfPair_1 (by decide) (fun c_1 => ?_) (fun c_1 => ?_)
  · skip
    rw [if_neg c_1] at hF
    refine lv_iload_n hx hb dX3_faultOfPair_16 rfl (lv_at hl 1 rfl) ?_
    exact hQ p1 p1 _ _ _ _ dX3_faultOfPair_17 ⟨hF.symm, rfl⟩ hP hD hS
  · skip
    rw [if_pos c_1] at hF
    refine lv_aload_n hx hb dX3_faultOfPair_4 rfl (lv_at hl 0 rfl) ?_
    refine gf_X3_155 (v := .int o_this.2.2.2.2.2.2.2.2.2) hx hb hown ht hK hP 0 rfl rfl dX3_faultOfPair_5 ?_
    refine lv_iload_n hx hb dX3_faultOfPair_8 rfl (lv_at hl 2 rfl) ?_
    refine lv_iconst (v := 1) hx hb dX3_faultOfPair_9 (by decide) ?_
    refine q_Si (rest := []) (c_X3_readFault l D o_this.2.2.2.2.2.2.2.2.2 p2 1) cv_X3_readFault hx hb hml hown ht hN hK hA hP hD hS hl.1 (km_X3_165) ⟨Nat.le_of_ble_eq_true rfl, Nat.le_of_ble_eq_true rfl⟩ rfl rfl [] (by decide) rfl [] rfl (fun _ => rfl) rfl rfl (Nat.le_of_ble_eq_true rfl) dX3_faultOfPair_10 ⟨Nat.zero_le _, Nat.zero_le _⟩ (fun r u H locs hw hP hD hS => ?_)
    obtain ⟨rfl, rfl⟩ := hw
    have hP : va_P D vwCl [(a_this, oX3 a_this_storage a_this_status a_this_channel a_this_registers a_this_first a_this_second o_this)] H := hP
    have hD : va_D A [(a_this, oX3 a_this_storage a_this_status a_this_channel a_this_registers a_this_first a_this_second o_this)] := hD
    refine lv_goto (tgt := 17) hx hb dX3_faultOfPair_13 (by decide) ?_
    exact hQ (f_X3_readFault o_this.2.2.2.2.2.2.2.2.2 p2 1) (f_X3_readFault o_this.2.2.2.2.2.2.2.2.2 p2 1) _ _ _ _ dX3_faultOfPair_17 ⟨hF.symm, rfl⟩ hP hD hS
theorem cv_X3_faultOfPair : qV yX3_faultOfPair cX3_faultOfPair 3 (some .int) 2 := ⟨kc_X3_faultOfPair, kt_X3_faultOfPair, ks_X3_faultOfPair, kn_X3, by decide, by decide +kernel⟩
def f_X3_moveBytes_L31 (o_this : Bool × Int32 × Int32 × Int32 × Int32 × Int32 × Int32 × Int32 × Int32 × Int32) : Nat → (Nat → Int32) → Int32 → Int32 × (Nat → Int32)
  | 0, r_this_storage_bytes_L31, x3 => (0, r_this_storage_bytes_L31)
  | fuel + 1, r_this_storage_bytes_L31, x3 => (if (o_this.2.2.2.2.2.1 + (1 : Int32)) ≤ x3 then (0, r_this_storage_bytes_L31) else (q_let (f_X6_putByte r_this_storage_bytes_L31 (o_this.2.2.2.2.2.2.2.2.1 + x3) (f_X6_byteAt r_this_storage_bytes_L31 (o_this.2.2.2.2.2.2.2.2.2 + x3))) fun w_7 => f_X3_moveBytes_L31 o_this fuel w_7 (x3 + (1 : Int32))))
def f_X3_moveBytes (o_this : Bool × Int32 × Int32 × Int32 × Int32 × Int32 × Int32 × Int32 × Int32 × Int32) (o_this_status : Int32 × Int32 × Int32 × Int32) (r_this_storage_bytes : Nat → Int32) (r_this_storage_keys : Nat → Int32) : Int32 × (Nat → Int32) := (if (f_X3_faultOfPair o_this (f_X3_storeFault o_this_status r_this_storage_keys o_this.2.2.2.2.2.2.2.2.1 (o_this.2.2.2.2.2.1 + (1 : Int32)) 1) (o_this.2.2.2.2.2.1 + (1 : Int32))) = 0 then f_X3_moveBytes_L31 o_this ((((o_this.2.2.2.2.2.1 + (1 : Int32)) : Int32).toInt - (0 : Int32).toInt).toNat + 1) r_this_storage_bytes 0 else ((f_X3_faultOfPair o_this (f_X3_storeFault o_this_status r_this_storage_keys o_this.2.2.2.2.2.2.2.2.1 (o_this.2.2.2.2.2.1 + (1 : Int32)) 1) (o_this.2.2.2.2.2.1 + (1 : Int32))), r_this_storage_bytes))
set_option linter.all false in
set_option maxHeartbeats 4000000 in
set_option maxRecDepth 100000 in
theorem c_X3_moveBytes (l : Launch) (D : va_G) (a_this a_this_status a_this_storage a_this_storage_bytes a_this_storage_keys a_this_channel a_this_registers a_this_first a_this_second : Nat) (k_this_storage_bytes k_this_storage_keys : ClassId) (o_this : Bool × Int32 × Int32 × Int32 × Int32 × Int32 × Int32 × Int32 × Int32 × Int32) (o_this_status : Int32 × Int32 × Int32 × Int32) (r_this_storage_bytes : Nat → Int32) (r_this_storage_keys : Nat → Int32) : CtI l yX3_moveBytes cX3_moveBytes 4 (some .int) { frames := 3, cells := 0, slots := 0, locals := 72 } D [.ref a_this] [(a_this, oX3 a_this_storage a_this_status a_this_channel a_this_registers a_this_first a_this_second o_this), (a_this_status, oX5 o_this_status), (a_this_storage, oX6 a_this_storage_bytes a_this_storage_keys), (a_this_storage_bytes, .inl (k_this_storage_bytes, 2048, .inl r_this_storage_bytes)), (a_this_storage_keys, .inl (k_this_storage_keys, 8, .inl r_this_storage_keys))] [(k_this_storage_bytes, .byte), (k_this_storage_keys, .int)] (fun (r : Int32) (u : Int32 × (Nat → Int32)) => f_X3_moveBytes o_this o_this_status r_this_storage_bytes r_this_storage_keys = u ∧ r = u.1) (fun u => [(a_this, oX3 a_this_storage a_this_status a_this_channel a_this_registers a_this_first a_this_second o_this), (a_this_status, oX5 o_this_status), (a_this_storage, oX6 a_this_storage_bytes a_this_storage_keys), (a_this_storage_bytes, .inl (k_this_storage_bytes, 2048, .inl u.2)), (a_this_storage_keys, .inl (k_this_storage_keys, 8, .inl r_this_storage_keys))]) := by
  refine CtI.of (by decide) (Nat.le_of_ble_eq_true rfl) ?_
  intro p e s m below meth c A ls Q hE hP hD hS hl hQ
  obtain ⟨hx, hb, hml, hown, ht, hN, hK, hA⟩ := hE
  have hown : s.vm.findClass RX3 = some m.cls := hown
  have hl : lv_has ls 4 [(0, .ref a_this)] := hl
  obtain ⟨F, hF⟩ : ∃ F, f_X3_moveBytes o_this o_this_status r_this_storage_bytes r_this_storage_keys = F := ⟨_, rfl⟩
  rw [hF] at hQ
  unfold f_X3_moveBytes at hF
  refine lv_aload_n hx hb dX3_moveBytes_0 rfl (lv_at hl 0 rfl) ?_
  refine gf_X3_139 (v := .int o_this.2.2.2.2.2.1) hx hb hown ht hK hP 0 rfl rfl dX3_moveBytes_1 ?_
  refine lv_iconst (v := 1) hx hb dX3_moveBytes_4 (by decide) ?_
  refine lv_iadd hx hb dX3_moveBytes_5 ?_
  refine lv_istore_n (lv' := [(1, .int (o_this.2.2.2.2.2.1 + (1 : Int32))), (0, .ref a_this)]) hx hb dX3_moveBytes_6 rfl hl (by decide) rfl (fun ls hl => ?_)
  refine lv_aload_n hx hb dX3_moveBytes_7 rfl (lv_at hl 1 rfl) ?_
  refine lv_aload_n hx hb dX3_moveBytes_8 rfl (lv_at hl 1 rfl) ?_
  refine lv_aload_n hx hb dX3_moveBytes_9 rfl (lv_at hl 1 rfl) ?_
  refine gf_X3_152 (v := .int o_this.2.2.2.2.2.2.2.2.1) hx hb hown ht hK hP 0 rfl rfl dX3_moveBytes_10 ?_
  refine lv_iload_n hx hb dX3_moveBytes_13 rfl (lv_at hl 0 rfl) ?_
  refine lv_iconst (v := 1) hx hb dX3_moveBytes_14 (by decide) ?_
  refine q_Vi (rest := [.ref a_this]) (c_X3_storeFault l D a_this a_this_status a_this_storage a_this_storage_keys a_this_channel a_this_registers a_this_first a_this_second a_this_storage_bytes k_this_storage_keys o_this o_this_status r_this_storage_keys o_this.2.2.2.2.2.2.2.2.1 (o_this.2.2.2.2.2.1 + (1 : Int32)) 1) cv_X3_storeFault hx hb hml hown ht hN hK hA hP hD hS hl.1 (km_X3_264) ⟨Nat.le_of_ble_eq_true rfl, Nat.le_of_ble_eq_true rfl⟩ rfl rfl [0, 1, 2, 4] (by decide) rfl [1] rfl (fun _ => rfl) (ci := 3) rfl rfl rfl rfl rfl (Nat.le_of_ble_eq_true rfl) dX3_moveBytes_15 ⟨Nat.zero_le _, Nat.zero_le _⟩ (fun r u H locs hw hP hD hS => ?_)
  obtain ⟨rfl, rfl⟩ := hw
  have hP : va_P D vwCl [(a_this, oX3 a_this_storage a_this_status a_this_channel a_this_registers a_this_first a_this_second o_this), (a_this_status, oX5 o_this_status), (a_this_storage, oX6 a_this_storage_bytes a_this_storage_keys), (a_this_storage_bytes, .inl (k_this_storage_bytes, 2048, .inl r_this_storage_bytes)), (a_this_storage_keys, .inl (k_this_storage_keys, 8, .inl r_this_storage_keys))] H := hP
  have hD : va_D A [(a_this, oX3 a_this_storage a_this_status a_this_channel a_this_registers a_this_first a_this_second o_this), (a_this_status, oX5 o_this_status), (a_this_storage, oX6 a_this_storage_bytes a_this_storage_keys), (a_this_storage_bytes, .inl (k_this_storage_bytes, 2048, .inl r_this_storage_bytes)), (a_this_storage_keys, .inl (k_this_storage_keys, 8, .inl r_this_storage_keys))] := hD
  refine lv_iload_n hx hb dX3_moveBytes_18 rfl (lv_at hl 0 rfl) ?_
  refine q_Vi (rest := []) (c_X3_faultOfPair l D a_this a_this_storage a_this_status a_this_channel a_this_registers a_this_first a_this_second o_this (f_X3_storeFault o_this_status r_this_storage_keys o_this.2.2.2.2.2.2.2.2.1 (o_this.2.2.2.2.2.1 + (1 : Int32)) 1) (o_this.2.2.2.2.2.1 + (1 : Int32))) cv_X3_faultOfPair hx hb hml hown ht hN hK hA hP hD hS hl.1 (km_X3_341) ⟨Nat.le_of_ble_eq_true rfl, Nat.le_of_ble_eq_true rfl⟩ rfl rfl [0] (by decide) rfl [] rfl (fun _ => rfl) (ci := 3) rfl rfl rfl rfl rfl (Nat.le_of_ble_eq_true rfl) dX3_moveBytes_19 ⟨Nat.zero_le _, Nat.zero_le _⟩ (fun r u H locs hw hP hD hS => ?_)
  obtain ⟨rfl, rfl⟩ := hw
  have hP : va_P D vwCl [(a_this, oX3 a_this_storage a_this_status a_this_channel a_this_registers a_this_first a_this_second o_this), (a_this_status, oX5 o_this_status), (a_this_storage, oX6 a_this_storage_bytes a_this_storage_keys), (a_this_storage_bytes, .inl (k_this_storage_bytes, 2048, .inl r_this_storage_bytes)), (a_this_storage_keys, .inl (k_this_storage_keys, 8, .inl r_this_storage_keys))] H := hP
  have hD : va_D A [(a_this, oX3 a_this_storage a_this_status a_this_channel a_this_registers a_this_first a_this_second o_this), (a_this_status, oX5 o_this_status), (a_this_storage, oX6 a_this_storage_bytes a_this_storage_keys), (a_this_storage_bytes, .inl (k_this_storage_bytes, 2048, .inl r_this_storage_bytes)), (a_this_storage_keys, .inl (k_this_storage_keys, 8, .inl r_this_storage_keys))] := hD
  refine lv_istore_n (lv' := [(2, .int (f_X3_faultOfPair o_this (f_X3_storeFault o_this_status r_this_storage_keys o_this.2.2.2.2.2.2.2.2.1 (o_this.2.2.2.2.2.1 + (1 : Int32)) 1) (o_this.2.2.2.2.2.1 + (1 : Int32)))), (1, .int (o_this.2.2.2.2.2.1 + (1 : Int32))), (0, .ref a_this)]) hx hb dX3_moveBytes_22 rfl hl (by decide) rfl (fun ls hl => ?_)
  refine lv_iload_n hx hb dX3_moveBytes_23 rfl (lv_at hl 0 rfl) ?_
  refine lv_if_eq (tgt := 29) hx hb dX3_moveBytes_24 (by decide) (fun c_3 => ?_) (fun c_3 => ?_)
  · skip
    rw [if_pos c_3] at hF
    refine lv_iconst (v := 0) hx hb dX3_moveBytes_29 (by decide) ?_
    refine lv_istore_n (lv' := [(3, .int 0), (2, .int (f_X3_faultOfPair o_this (f_X3_storeFault o_this_status r_this_storage_keys o_this.2.2.2.2.2.2.2.2.1 (o_this.2.2.2.2.2.1 + (1 : Int32)) 1) (o_this.2.2.2.2.2.1 + (1 : Int32)))), (1, .int (o_this.2.2.2.2.2.1 + (1 : Int32))), (0, .ref a_this)]) hx hb dX3_moveBytes_30 rfl hl (by decide) rfl (fun ls hl => ?_)
    have L31 : ∀ (fuel : Nat) (r_this_storage_bytes_L31 : Nat → Int32) (x3 : Int32) (H : Heap) (locs : List Loc) (ls : Array Slot), (((o_this.2.2.2.2.2.1 + (1 : Int32)) : Int32).toInt - (x3 : Int32).toInt).toNat < fuel → va_P D vwCl [(a_this, oX3 a_this_storage a_this_status a_this_channel a_this_registers a_this_first a_this_second o_this), (a_this_status, oX5 o_this_status), (a_this_storage, oX6 a_this_storage_bytes a_this_storage_keys), (a_this_storage_bytes, .inl (k_this_storage_bytes, 2048, .inl r_this_storage_bytes_L31)), (a_this_storage_keys, .inl (k_this_storage_keys, 8, .inl r_this_storage_keys))] H → va_D A [(a_this, oX3 a_this_storage a_this_status a_this_channel a_this_registers a_this_first a_this_second o_this), (a_this_status, oX5 o_this_status), (a_this_storage, oX6 a_this_storage_bytes a_this_storage_keys), (a_this_storage_bytes, .inl (k_this_storage_bytes, 2048, .inl r_this_storage_bytes_L31)), (a_this_storage_keys, .inl (k_this_storage_keys, 8, .inl r_this_storage_keys))] → va_S A s.heap H locs → lv_has ls 4 [(3, .int x3), (2, .int (f_X3_faultOfPair o_this (f_X3_storeFault o_this_status r_this_storage_keys o_this.2.2.2.2.2.2.2.2.1 (o_this.2.2.2.2.2.1 + (1 : Int32)) 1) (o_this.2.2.2.2.2.1 + (1 : Int32)))), (1, .int (o_this.2.2.2.2.2.1 + (1 : Int32))), (0, .ref a_this)] → f_X3_moveBytes_L31 o_this fuel r_this_storage_bytes_L31 x3 = F → W p l e ({ frames := 3, cells := 0, slots := 0, locals := 72 } : Room) s m ([.ref a_this] : List Value).toArray below meth c H locs 0 0 Q (F0 m 31 ls []) := by
      intro fuel
      induction fuel with
      | zero => intro r_this_storage_bytes_L31 x3 H locs ls hm; exact absurd hm (Nat.not_lt_zero _)
      | succ fuel ih =>
        intro r_this_storage_bytes_L31 x3 H locs ls hm  hP hD hS hl hF
        rw [f_X3_moveBytes_L31] at hF
        skip
        refine lv_iload_n hx hb dX3_moveBytes_31 rfl (lv_at hl 0 rfl) ?_
        refine lv_iload_n hx hb dX3_moveBytes_32 rfl (lv_at hl 2 rfl) ?_
        refine lv_icmp_ge (tgt := 68) hx hb dX3_moveBytes_33 (by decide) (fun c_5 => ?_) (fun c_5 => ?_)
        · skip
          rw [if_pos c_5] at hF
          refine lv_iconst (v := 0) hx hb dX3_moveBytes_68 (by decide) ?_
          exact hQ 0 (0, r_this_storage_bytes_L31) _ _ _ _ dX3_moveBytes_69 ⟨hF.symm, rfl⟩ hP hD hS
        · skip
          rw [if_neg c_5] at hF
          refine lv_aload_n hx hb dX3_moveBytes_36 rfl (lv_at hl 3 rfl) ?_
          refine gf_X3_12 (v := .ref a_this_storage) hx hb hown ht hK hP 0 rfl rfl dX3_moveBytes_37 ?_
          refine lv_aload_n hx hb dX3_moveBytes_40 rfl (lv_at hl 3 rfl) ?_
          refine gf_X3_152 (v := .int o_this.2.2.2.2.2.2.2.2.1) hx hb hown ht hK hP 0 rfl rfl dX3_moveBytes_41 ?_
          refine lv_iload_n hx hb dX3_moveBytes_44 rfl (lv_at hl 0 rfl) ?_
          refine lv_iadd hx hb dX3_moveBytes_45 ?_
          refine lv_aload_n hx hb dX3_moveBytes_46 rfl (lv_at hl 3 rfl) ?_
          refine gf_X3_12 (v := .ref a_this_storage) hx hb hown ht hK hP 0 rfl rfl dX3_moveBytes_47 ?_
          refine lv_aload_n hx hb dX3_moveBytes_50 rfl (lv_at hl 3 rfl) ?_
          refine gf_X3_155 (v := .int o_this.2.2.2.2.2.2.2.2.2) hx hb hown ht hK hP 0 rfl rfl dX3_moveBytes_51 ?_
          refine lv_iload_n hx hb dX3_moveBytes_54 rfl (lv_at hl 0 rfl) ?_
          refine lv_iadd hx hb dX3_moveBytes_55 ?_
          refine q_Vi (rest := [.int (o_this.2.2.2.2.2.2.2.2.1 + x3), .ref a_this_storage]) (c_X6_byteAt l D a_this_storage a_this_storage_bytes a_this_storage_keys k_this_storage_bytes r_this_storage_bytes_L31 (o_this.2.2.2.2.2.2.2.2.2 + x3)) cv_X6_byteAt hx hb hml hown ht hN hK hA hP hD hS hl.1 (km_X3_119) ⟨Nat.le_of_ble_eq_true rfl, Nat.le_of_ble_eq_true rfl⟩ rfl rfl [2, 3] (by decide) rfl [0] rfl (fun _ => rfl) (ci := 6) rfl rfl rfl rfl rfl (Nat.le_of_ble_eq_true rfl) dX3_moveBytes_56 ⟨Nat.zero_le _, Nat.zero_le _⟩ (fun r u H locs hw hP hD hS => ?_)
          obtain ⟨rfl, rfl⟩ := hw
          have hP : va_P D vwCl [(a_this, oX3 a_this_storage a_this_status a_this_channel a_this_registers a_this_first a_this_second o_this), (a_this_status, oX5 o_this_status), (a_this_storage, oX6 a_this_storage_bytes a_this_storage_keys), (a_this_storage_bytes, .inl (k_this_storage_bytes, 2048, .inl r_this_storage_bytes_L31)), (a_this_storage_keys, .inl (k_this_storage_keys, 8, .inl r_this_storage_keys))] H := hP
          have hD : va_D A [(a_this, oX3 a_this_storage a_this_status a_this_channel a_this_registers a_this_first a_this_second o_this), (a_this_status, oX5 o_this_status), (a_this_storage, oX6 a_this_storage_bytes a_this_storage_keys), (a_this_storage_bytes, .inl (k_this_storage_bytes, 2048, .inl r_this_storage_bytes_L31)), (a_this_storage_keys, .inl (k_this_storage_keys, 8, .inl r_this_storage_keys))] := hD
          refine q_Vv (rest := []) (c_X6_putByte l D a_this_storage a_this_storage_bytes a_this_storage_keys k_this_storage_bytes r_this_storage_bytes_L31 (o_this.2.2.2.2.2.2.2.2.1 + x3) (f_X6_byteAt r_this_storage_bytes_L31 (o_this.2.2.2.2.2.2.2.2.2 + x3))) cv_X6_putByte hx hb hml hown ht hN hK hA hP hD hS hl.1 (km_X3_270) ⟨Nat.le_of_ble_eq_true rfl, Nat.le_of_ble_eq_true rfl⟩ rfl rfl [2, 3] (by decide) rfl [0] rfl (fun _ => rfl) (ci := 6) rfl rfl rfl rfl rfl (Nat.le_of_ble_eq_true rfl) dX3_moveBytes_59 ⟨Nat.zero_le _, Nat.zero_le _⟩ (fun w_7 H locs hw hP hD hS => ?_)
          have hP : va_P D vwCl [(a_this, oX3 a_this_storage a_this_status a_this_channel a_this_registers a_this_first a_this_second o_this), (a_this_status, oX5 o_this_status), (a_this_storage, oX6 a_this_storage_bytes a_this_storage_keys), (a_this_storage_bytes, .inl (k_this_storage_bytes, 2048, .inl w_7)), (a_this_storage_keys, .inl (k_this_storage_keys, 8, .inl r_this_storage_keys))] H := hP
          have hD : va_D A [(a_this, oX3 a_this_storage a_this_status a_this_channel a_this_registers a_this_first a_this_second o_this), (a_this_status, oX5 o_this_status), (a_this_storage, oX6 a_this_storage_bytes a_this_storage_keys), (a_this_storage_bytes, .inl (k_this_storage_bytes, 2048, .inl w_7)), (a_this_storage_keys, .inl (k_this_storage_keys, 8, .inl r_this_storage_keys))] := hD
          rw [q_let_of hw] at hF
          refine lv_iinc (v := (x3 + (1 : Int32))) (lv' := [(3, .int (x3 + (1 : Int32))), (2, .int (f_X3_faultOfPair o_this (f_X3_storeFault o_this_status r_this_storage_keys o_this.2.2.2.2.2.2.2.2.1 (o_this.2.2.2.2.2.1 + (1 : Int32)) 1) (o_this.2.2.2.2.2.1 + (1 : Int32)))), (1, .int (o_this.2.2.2.2.2.1 + (1 : Int32))), (0, .ref a_this)]) hx hb dX3_moveBytes_62 hl (k := 0) rfl rfl (by decide) rfl (fun ls hl => ?_)
          refine lv_goto (tgt := 31) hx hb dX3_moveBytes_65 (by decide) ?_
          exact ih w_7 (x3 + (1 : Int32)) _ _ _ (by first | exact q_up hm c_3 | exact q_up hm c_5)  hP hD hS (lv_sub hl [0, 1, 2, 3] rfl) hF
    exact L31 ((((o_this.2.2.2.2.2.1 + (1 : Int32)) : Int32).toInt - (0 : Int32).toInt).toNat + 1) r_this_storage_bytes 0 _ _ _ (Nat.lt_succ_self _)  hP hD hS (lv_sub hl [0, 1, 2, 3] rfl) hF
  · skip
    rw [if_neg c_3] at hF
    refine lv_iload_n hx hb dX3_moveBytes_27 rfl (lv_at hl 0 rfl) ?_
    exact hQ (f_X3_faultOfPair o_this (f_X3_storeFault o_this_status r_this_storage_keys o_this.2.2.2.2.2.2.2.2.1 (o_this.2.2.2.2.2.1 + (1 : Int32)) 1) (o_this.2.2.2.2.2.1 + (1 : Int32))) ((f_X3_faultOfPair o_this (f_X3_storeFault o_this_status r_this_storage_keys o_this.2.2.2.2.2.2.2.2.1 (o_this.2.2.2.2.2.1 + (1 : Int32)) 1) (o_this.2.2.2.2.2.1 + (1 : Int32))), r_this_storage_bytes) _ _ _ _ dX3_moveBytes_28 ⟨hF.symm, rfl⟩ hP hD hS
theorem cv_X3_moveBytes : qV yX3_moveBytes cX3_moveBytes 4 (some .int) 0 := ⟨kc_X3_moveBytes, kt_X3_moveBytes, ks_X3_moveBytes, kn_X3, by decide, by decide +kernel⟩
def f_X3_compareBytes_L38 (o_this : Bool × Int32 × Int32 × Int32 × Int32 × Int32 × Int32 × Int32 × Int32 × Int32) (r_this_storage_bytes : Nat → Int32) : Nat → (Int32 × Int32 × Int32 × Int32) → Int32 → Int32 × (Int32 × Int32 × Int32 × Int32)
  | 0, o_this_status_L38, x3 => (0, o_this_status_L38)
  | fuel + 1, o_this_status_L38, x3 => (if (o_this.2.2.2.2.2.1 + (1 : Int32)) ≤ x3 then (0, o_this_status_L38) else (if o_this_status_L38.2.2.1 = 0 then f_X3_compareBytes_L38 o_this r_this_storage_bytes fuel (o_this_status_L38.1, o_this_status_L38.2.1, (f_X7_order ((f_X6_byteAt r_this_storage_bytes (o_this.2.2.2.2.2.2.2.2.1 + x3)).toInt64) ((f_X6_byteAt r_this_storage_bytes (o_this.2.2.2.2.2.2.2.2.2 + x3)).toInt64)), o_this_status_L38.2.2.2) (x3 + (1 : Int32)) else (0, o_this_status_L38)))
def f_X3_compareBytes (o_this : Bool × Int32 × Int32 × Int32 × Int32 × Int32 × Int32 × Int32 × Int32 × Int32) (o_this_status : Int32 × Int32 × Int32 × Int32) (r_this_storage_bytes : Nat → Int32) : Int32 × (Int32 × Int32 × Int32 × Int32) := (if (f_X3_faultOfPair o_this (f_X3_readFault o_this.2.2.2.2.2.2.2.2.1 (o_this.2.2.2.2.2.1 + (1 : Int32)) 1) (o_this.2.2.2.2.2.1 + (1 : Int32))) = 0 then f_X3_compareBytes_L38 o_this r_this_storage_bytes ((((o_this.2.2.2.2.2.1 + (1 : Int32)) : Int32).toInt - (0 : Int32).toInt).toNat + 1) (o_this_status.1, o_this_status.2.1, 0, o_this_status.2.2.2) 0 else ((f_X3_faultOfPair o_this (f_X3_readFault o_this.2.2.2.2.2.2.2.2.1 (o_this.2.2.2.2.2.1 + (1 : Int32)) 1) (o_this.2.2.2.2.2.1 + (1 : Int32))), o_this_status))
set_option linter.all false in
set_option maxHeartbeats 4000000 in
set_option maxRecDepth 100000 in
theorem c_X3_compareBytes (l : Launch) (D : va_G) (a_this a_this_status a_this_storage a_this_storage_bytes a_this_channel a_this_registers a_this_first a_this_second a_this_storage_keys : Nat) (k_this_storage_bytes : ClassId) (o_this : Bool × Int32 × Int32 × Int32 × Int32 × Int32 × Int32 × Int32 × Int32 × Int32) (o_this_status : Int32 × Int32 × Int32 × Int32) (r_this_storage_bytes : Nat → Int32) : CtI l yX3_compareBytes cX3_compareBytes 4 (some .int) { frames := 3, cells := 0, slots := 0, locals := 65 } D [.ref a_this] [(a_this, oX3 a_this_storage a_this_status a_this_channel a_this_registers a_this_first a_this_second o_this), (a_this_status, oX5 o_this_status), (a_this_storage, oX6 a_this_storage_bytes a_this_storage_keys), (a_this_storage_bytes, .inl (k_this_storage_bytes, 2048, .inl r_this_storage_bytes))] [(k_this_storage_bytes, .byte)] (fun (r : Int32) (u : Int32 × (Int32 × Int32 × Int32 × Int32)) => f_X3_compareBytes o_this o_this_status r_this_storage_bytes = u ∧ r = u.1) (fun u => [(a_this, oX3 a_this_storage a_this_status a_this_channel a_this_registers a_this_first a_this_second o_this), (a_this_status, oX5 u.2), (a_this_storage, oX6 a_this_storage_bytes a_this_storage_keys), (a_this_storage_bytes, .inl (k_this_storage_bytes, 2048, .inl r_this_storage_bytes))]) := by
  refine CtI.of (by decide) (Nat.le_of_ble_eq_true rfl) ?_
  intro p e s m below meth c A ls Q hE hP hD hS hl hQ
  obtain ⟨hx, hb, hml, hown, ht, hN, hK, hA⟩ := hE
  have hown : s.vm.findClass RX3 = some m.cls := hown
  have hl : lv_has ls 4 [(0, .ref a_this)] := hl
  obtain ⟨F, hF⟩ : ∃ F, f_X3_compareBytes o_this o_this_status r_this_storage_bytes = F := ⟨_, rfl⟩
  rw [hF] at hQ
  unfold f_X3_compareBytes at hF
  refine lv_aload_n hx hb dX3_compareBytes_0 rfl (lv_at hl 0 rfl) ?_
  refine gf_X3_139 (v := .int o_this.2.2.2.2.2.1) hx hb hown ht hK hP 0 rfl rfl dX3_compareBytes_1 ?_
  refine lv_iconst (v := 1) hx hb dX3_compareBytes_4 (by decide) ?_
  refine lv_iadd hx hb dX3_compareBytes_5 ?_
  refine lv_istore_n (lv' := [(1, .int (o_this.2.2.2.2.2.1 + (1 : Int32))), (0, .ref a_this)]) hx hb dX3_compareBytes_6 rfl hl (by decide) rfl (fun ls hl => ?_)
  refine lv_aload_n hx hb dX3_compareBytes_7 rfl (lv_at hl 1 rfl) ?_
  refine lv_aload_n hx hb dX3_compareBytes_8 rfl (lv_at hl 1 rfl) ?_
  refine gf_X3_152 (v := .int o_this.2.2.2.2.2.2.2.2.1) hx hb hown ht hK hP 0 rfl rfl dX3_compareBytes_9 ?_
  refine lv_iload_n hx hb dX3_compareBytes_12 rfl (lv_at hl 0 rfl) ?_
  refine lv_iconst (v := 1) hx hb dX3_compareBytes_13 (by decide) ?_
  refine q_Si (rest := [.ref a_this]) (c_X3_readFault l D o_this.2.2.2.2.2.2.2.2.1 (o_this.2.2.2.2.2.1 + (1 : Int32)) 1) cv_X3_readFault hx hb hml hown ht hN hK hA hP hD hS hl.1 (km_X3_165) ⟨Nat.le_of_ble_eq_true rfl, Nat.le_of_ble_eq_true rfl⟩ rfl rfl [] (by decide) rfl [] rfl (fun _ => rfl) rfl rfl (Nat.le_of_ble_eq_true rfl) dX3_compareBytes_14 ⟨Nat.zero_le _, Nat.zero_le _⟩ (fun r u H locs hw hP hD hS => ?_)
  obtain ⟨rfl, rfl⟩ := hw
  have hP : va_P D vwCl [(a_this, oX3 a_this_storage a_this_status a_this_channel a_this_registers a_this_first a_this_second o_this), (a_this_status, oX5 o_this_status), (a_this_storage, oX6 a_this_storage_bytes a_this_storage_keys), (a_this_storage_bytes, .inl (k_this_storage_bytes, 2048, .inl r_this_storage_bytes))] H := hP
  have hD : va_D A [(a_this, oX3 a_this_storage a_this_status a_this_channel a_this_registers a_this_first a_this_second o_this), (a_this_status, oX5 o_this_status), (a_this_storage, oX6 a_this_storage_bytes a_this_storage_keys), (a_this_storage_bytes, .inl (k_this_storage_bytes, 2048, .inl r_this_storage_bytes))] := hD
  refine lv_iload_n hx hb dX3_compareBytes_17 rfl (lv_at hl 0 rfl) ?_
  refine q_Vi (rest := []) (c_X3_faultOfPair l D a_this a_this_storage a_this_status a_this_channel a_this_registers a_this_first a_this_second o_this (f_X3_readFault o_this.2.2.2.2.2.2.2.2.1 (o_this.2.2.2.2.2.1 + (1 : Int32)) 1) (o_this.2.2.2.2.2.1 + (1 : Int32))) cv_X3_faultOfPair hx hb hml hown ht hN hK hA hP hD hS hl.1 (km_X3_341) ⟨Nat.le_of_ble_eq_true rfl, Nat.le_of_ble_eq_true rfl⟩ rfl rfl [0] (by decide) rfl [] rfl (fun _ => rfl) (ci := 3) rfl rfl rfl rfl rfl (Nat.le_of_ble_eq_true rfl) dX3_compareBytes_18 ⟨Nat.zero_le _, Nat.zero_le _⟩ (fun r u H locs hw hP hD hS => ?_)
  obtain ⟨rfl, rfl⟩ := hw
  have hP : va_P D vwCl [(a_this, oX3 a_this_storage a_this_status a_this_channel a_this_registers a_this_first a_this_second o_this), (a_this_status, oX5 o_this_status), (a_this_storage, oX6 a_this_storage_bytes a_this_storage_keys), (a_this_storage_bytes, .inl (k_this_storage_bytes, 2048, .inl r_this_storage_bytes))] H := hP
  have hD : va_D A [(a_this, oX3 a_this_storage a_this_status a_this_channel a_this_registers a_this_first a_this_second o_this), (a_this_status, oX5 o_this_status), (a_this_storage, oX6 a_this_storage_bytes a_this_storage_keys), (a_this_storage_bytes, .inl (k_this_storage_bytes, 2048, .inl r_this_storage_bytes))] := hD
  refine lv_istore_n (lv' := [(2, .int (f_X3_faultOfPair o_this (f_X3_readFault o_this.2.2.2.2.2.2.2.2.1 (o_this.2.2.2.2.2.1 + (1 : Int32)) 1) (o_this.2.2.2.2.2.1 + (1 : Int32)))), (1, .int (o_this.2.2.2.2.2.1 + (1 : Int32))), (0, .ref a_this)]) hx hb dX3_compareBytes_21 rfl hl (by decide) rfl (fun ls hl => ?_)
  refine lv_iload_n hx hb dX3_compareBytes_22 rfl (lv_at hl 0 rfl) ?_
  refine lv_if_eq (tgt := 28) hx hb dX3_compareBytes_23 (by decide) (fun c_3 => ?_) (fun c_3 => ?_)
  · skip
    rw [if_pos c_3] at hF
    refine lv_aload_n hx hb dX3_compareBytes_28 rfl (lv_at hl 2 rfl) ?_
    refine gf_X3_21 (v := .ref a_this_status) hx hb hown ht hK hP 0 rfl rfl dX3_compareBytes_29 ?_
    refine lv_iconst (v := 0) hx hb dX3_compareBytes_32 (by decide) ?_
    refine pf_X3_209 (x := 0) hx hb hown ht hK hP hD hS 1 rfl (Nat.le_of_ble_eq_true rfl) dX3_compareBytes_33 (fun H locs hP hD hS => ?_)
    have hP : va_P D vwCl [(a_this, oX3 a_this_storage a_this_status a_this_channel a_this_registers a_this_first a_this_second o_this), (a_this_status, oX5 (o_this_status.1, o_this_status.2.1, 0, o_this_status.2.2.2)), (a_this_storage, oX6 a_this_storage_bytes a_this_storage_keys), (a_this_storage_bytes, .inl (k_this_storage_bytes, 2048, .inl r_this_storage_bytes))] H := hP
    have hD : va_D A [(a_this, oX3 a_this_storage a_this_status a_this_channel a_this_registers a_this_first a_this_second o_this), (a_this_status, oX5 (o_this_status.1, o_this_status.2.1, 0, o_this_status.2.2.2)), (a_this_storage, oX6 a_this_storage_bytes a_this_storage_keys), (a_this_storage_bytes, .inl (k_this_storage_bytes, 2048, .inl r_this_storage_bytes))] := hD
    refine lv_iconst (v := 0) hx hb dX3_compareBytes_36 (by decide) ?_
    refine lv_istore_n (lv' := [(3, .int 0), (2, .int (f_X3_faultOfPair o_this (f_X3_readFault o_this.2.2.2.2.2.2.2.2.1 (o_this.2.2.2.2.2.1 + (1 : Int32)) 1) (o_this.2.2.2.2.2.1 + (1 : Int32)))), (1, .int (o_this.2.2.2.2.2.1 + (1 : Int32))), (0, .ref a_this)]) hx hb dX3_compareBytes_37 rfl hl (by decide) rfl (fun ls hl => ?_)
    have L38 : ∀ (fuel : Nat) (o_this_status_L38 : Int32 × Int32 × Int32 × Int32) (x3 : Int32) (H : Heap) (locs : List Loc) (ls : Array Slot), (((o_this.2.2.2.2.2.1 + (1 : Int32)) : Int32).toInt - (x3 : Int32).toInt).toNat < fuel → va_P D vwCl [(a_this, oX3 a_this_storage a_this_status a_this_channel a_this_registers a_this_first a_this_second o_this), (a_this_status, oX5 o_this_status_L38), (a_this_storage, oX6 a_this_storage_bytes a_this_storage_keys), (a_this_storage_bytes, .inl (k_this_storage_bytes, 2048, .inl r_this_storage_bytes))] H → va_D A [(a_this, oX3 a_this_storage a_this_status a_this_channel a_this_registers a_this_first a_this_second o_this), (a_this_status, oX5 o_this_status_L38), (a_this_storage, oX6 a_this_storage_bytes a_this_storage_keys), (a_this_storage_bytes, .inl (k_this_storage_bytes, 2048, .inl r_this_storage_bytes))] → va_S A s.heap H locs → lv_has ls 4 [(3, .int x3), (2, .int (f_X3_faultOfPair o_this (f_X3_readFault o_this.2.2.2.2.2.2.2.2.1 (o_this.2.2.2.2.2.1 + (1 : Int32)) 1) (o_this.2.2.2.2.2.1 + (1 : Int32)))), (1, .int (o_this.2.2.2.2.2.1 + (1 : Int32))), (0, .ref a_this)] → f_X3_compareBytes_L38 o_this r_this_storage_bytes fuel o_this_status_L38 x3 = F → W p l e ({ frames := 3, cells := 0, slots := 0, locals := 65 } : Room) s m ([.ref a_this] : List Value).toArray below meth c H locs 0 0 Q (F0 m 38 ls []) := by
      intro fuel
      induction fuel with
      | zero => intro o_this_status_L38 x3 H locs ls hm; exact absurd hm (Nat.not_lt_zero _)
      | succ fuel ih =>
        intro o_this_status_L38 x3 H locs ls hm  hP hD hS hl hF
        rw [f_X3_compareBytes_L38] at hF
        skip
        refine lv_iload_n hx hb dX3_compareBytes_38 rfl (lv_at hl 0 rfl) ?_
        refine lv_iload_n hx hb dX3_compareBytes_39 rfl (lv_at hl 2 rfl) ?_
        refine lv_icmp_ge (tgt := 97) hx hb dX3_compareBytes_40 (by decide) (fun c_5 => ?_) (fun c_5 => ?_)
        · skip
          rw [if_pos c_5] at hF
          refine lv_iconst (v := 0) hx hb dX3_compareBytes_97 (by decide) ?_
          exact hQ 0 (0, o_this_status_L38) _ _ _ _ dX3_compareBytes_98 ⟨hF.symm, rfl⟩ hP hD hS
        · skip
          rw [if_neg c_5] at hF
          refine lv_aload_n hx hb dX3_compareBytes_43 rfl (lv_at hl 3 rfl) ?_
          refine gf_X3_21 (v := .ref a_this_status) hx hb hown ht hK hP 0 rfl rfl dX3_compareBytes_44 ?_
          refine gf_X3_209 (v := .int o_this_status_L38.2.2.1) hx hb hown ht hK hP 1 rfl rfl dX3_compareBytes_47 ?_
          refine lv_if_ne (tgt := 97) hx hb dX3_compareBytes_50 (by decide) (fun c_6 => ?_) (fun c_6 => ?_)
          · skip
            rw [if_neg c_6] at hF
            refine lv_iconst (v := 0) hx hb dX3_compareBytes_97 (by decide) ?_
            exact hQ 0 (0, o_this_status_L38) _ _ _ _ dX3_compareBytes_98 ⟨hF.symm, rfl⟩ hP hD hS
          · skip
            rw [if_pos c_6] at hF
            refine lv_aload_n hx hb dX3_compareBytes_53 rfl (lv_at hl 3 rfl) ?_
            refine gf_X3_21 (v := .ref a_this_status) hx hb hown ht hK hP 0 rfl rfl dX3_compareBytes_54 ?_
            refine lv_aload_n hx hb dX3_compareBytes_57 rfl (lv_at hl 3 rfl) ?_
            refine gf_X3_12 (v := .ref a_this_storage) hx hb hown ht hK hP 0 rfl rfl dX3_compareBytes_58 ?_
            refine lv_aload_n hx hb dX3_compareBytes_61 rfl (lv_at hl 3 rfl) ?_
            refine gf_X3_152 (v := .int o_this.2.2.2.2.2.2.2.2.1) hx hb hown ht hK hP 0 rfl rfl dX3_compareBytes_62 ?_
            refine lv_iload_n hx hb dX3_compareBytes_65 rfl (lv_at hl 0 rfl) ?_
            refine lv_iadd hx hb dX3_compareBytes_66 ?_
            refine q_Vi (rest := [.ref a_this_status]) (c_X6_byteAt l D a_this_storage a_this_storage_bytes a_this_storage_keys k_this_storage_bytes r_this_storage_bytes (o_this.2.2.2.2.2.2.2.2.1 + x3)) cv_X6_byteAt hx hb hml hown ht hN hK hA hP hD hS hl.1 (km_X3_119) ⟨Nat.le_of_ble_eq_true rfl, Nat.le_of_ble_eq_true rfl⟩ rfl rfl [2, 3] (by decide) rfl [0] rfl (fun _ => rfl) (ci := 6) rfl rfl rfl rfl rfl (Nat.le_of_ble_eq_true rfl) dX3_compareBytes_67 ⟨Nat.zero_le _, Nat.zero_le _⟩ (fun r u H locs hw hP hD hS => ?_)
            obtain ⟨rfl, rfl⟩ := hw
            have hP : va_P D vwCl [(a_this, oX3 a_this_storage a_this_status a_this_channel a_this_registers a_this_first a_this_second o_this), (a_this_status, oX5 o_this_status_L38), (a_this_storage, oX6 a_this_storage_bytes a_this_storage_keys), (a_this_storage_bytes, .inl (k_this_storage_bytes, 2048, .inl r_this_storage_bytes))] H := hP
            have hD : va_D A [(a_this, oX3 a_this_storage a_this_status a_this_channel a_this_registers a_this_first a_this_second o_this), (a_this_status, oX5 o_this_status_L38), (a_this_storage, oX6 a_this_storage_bytes a_this_storage_keys), (a_this_storage_bytes, .inl (k_this_storage_bytes, 2048, .inl r_this_storage_bytes))] := hD
            refine lv_i2l hx hb dX3_compareBytes_70 rfl ?_
            refine lv_aload_n hx hb dX3_compareBytes_71 rfl (lv_at hl 3 rfl) ?_
            refine gf_X3_12 (v := .ref a_this_storage) hx hb hown ht hK hP 0 rfl rfl dX3_compareBytes_72 ?_
            refine lv_aload_n hx hb dX3_compareBytes_75 rfl (lv_at hl 3 rfl) ?_
            refine gf_X3_155 (v := .int o_this.2.2.2.2.2.2.2.2.2) hx hb hown ht hK hP 0 rfl rfl dX3_compareBytes_76 ?_
            refine lv_iload_n hx hb dX3_compareBytes_79 rfl (lv_at hl 0 rfl) ?_
            refine lv_iadd hx hb dX3_compareBytes_80 ?_
            refine q_Vi (rest := [.long ((f_X6_byteAt r_this_storage_bytes (o_this.2.2.2.2.2.2.2.2.1 + x3)).toInt64), .ref a_this_status]) (c_X6_byteAt l D a_this_storage a_this_storage_bytes a_this_storage_keys k_this_storage_bytes r_this_storage_bytes (o_this.2.2.2.2.2.2.2.2.2 + x3)) cv_X6_byteAt hx hb hml hown ht hN hK hA hP hD hS hl.1 (km_X3_119) ⟨Nat.le_of_ble_eq_true rfl, Nat.le_of_ble_eq_true rfl⟩ rfl rfl [2, 3] (by decide) rfl [0] rfl (fun _ => rfl) (ci := 6) rfl rfl rfl rfl rfl (Nat.le_of_ble_eq_true rfl) dX3_compareBytes_81 ⟨Nat.zero_le _, Nat.zero_le _⟩ (fun r u H locs hw hP hD hS => ?_)
            obtain ⟨rfl, rfl⟩ := hw
            have hP : va_P D vwCl [(a_this, oX3 a_this_storage a_this_status a_this_channel a_this_registers a_this_first a_this_second o_this), (a_this_status, oX5 o_this_status_L38), (a_this_storage, oX6 a_this_storage_bytes a_this_storage_keys), (a_this_storage_bytes, .inl (k_this_storage_bytes, 2048, .inl r_this_storage_bytes))] H := hP
            have hD : va_D A [(a_this, oX3 a_this_storage a_this_status a_this_channel a_this_registers a_this_first a_this_second o_this), (a_this_status, oX5 o_this_status_L38), (a_this_storage, oX6 a_this_storage_bytes a_this_storage_keys), (a_this_storage_bytes, .inl (k_this_storage_bytes, 2048, .inl r_this_storage_bytes))] := hD
            refine lv_i2l hx hb dX3_compareBytes_84 rfl ?_
            refine q_Ni (rest := [.ref a_this_status]) (c_X7_order l D ((f_X6_byteAt r_this_storage_bytes (o_this.2.2.2.2.2.2.2.2.1 + x3)).toInt64) ((f_X6_byteAt r_this_storage_bytes (o_this.2.2.2.2.2.2.2.2.2 + x3)).toInt64)) cv_X7_order hx hb hml hown ht hN hK hA hP hD hS hl.1 (hN.2.2) ⟨Nat.le_of_ble_eq_true rfl, Nat.le_of_ble_eq_true rfl⟩ rfl rfl [] (by decide) rfl [] rfl (fun _ => rfl) rfl rfl (Nat.le_of_ble_eq_true rfl) dX3_compareBytes_85 ⟨Nat.zero_le _, Nat.zero_le _⟩ (fun r u H locs hw hP hD hS => ?_)
            obtain ⟨rfl, rfl⟩ := hw
            have hP : va_P D vwCl [(a_this, oX3 a_this_storage a_this_status a_this_channel a_this_registers a_this_first a_this_second o_this), (a_this_status, oX5 o_this_status_L38), (a_this_storage, oX6 a_this_storage_bytes a_this_storage_keys), (a_this_storage_bytes, .inl (k_this_storage_bytes, 2048, .inl r_this_storage_bytes))] H := hP
            have hD : va_D A [(a_this, oX3 a_this_storage a_this_status a_this_channel a_this_registers a_this_first a_this_second o_this), (a_this_status, oX5 o_this_status_L38), (a_this_storage, oX6 a_this_storage_bytes a_this_storage_keys), (a_this_storage_bytes, .inl (k_this_storage_bytes, 2048, .inl r_this_storage_bytes))] := hD
            refine pf_X3_209 (x := (f_X7_order ((f_X6_byteAt r_this_storage_bytes (o_this.2.2.2.2.2.2.2.2.1 + x3)).toInt64) ((f_X6_byteAt r_this_storage_bytes (o_this.2.2.2.2.2.2.2.2.2 + x3)).toInt64))) hx hb hown ht hK hP hD hS 1 rfl (Nat.le_of_ble_eq_true rfl) dX3_compareBytes_88 (fun H locs hP hD hS => ?_)
            have hP : va_P D vwCl [(a_this, oX3 a_this_storage a_this_status a_this_channel a_this_registers a_this_first a_this_second o_this), (a_this_status, oX5 (o_this_status_L38.1, o_this_status_L38.2.1, (f_X7_order ((f_X6_byteAt r_this_storage_bytes (o_this.2.2.2.2.2.2.2.2.1 + x3)).toInt64) ((f_X6_byteAt r_this_storage_bytes (o_this.2.2.2.2.2.2.2.2.2 + x3)).toInt64)), o_this_status_L38.2.2.2)), (a_this_storage, oX6 a_this_storage_bytes a_this_storage_keys), (a_this_storage_bytes, .inl (k_this_storage_bytes, 2048, .inl r_this_storage_bytes))] H := hP
            have hD : va_D A [(a_this, oX3 a_this_storage a_this_status a_this_channel a_this_registers a_this_first a_this_second o_this), (a_this_status, oX5 (o_this_status_L38.1, o_this_status_L38.2.1, (f_X7_order ((f_X6_byteAt r_this_storage_bytes (o_this.2.2.2.2.2.2.2.2.1 + x3)).toInt64) ((f_X6_byteAt r_this_storage_bytes (o_this.2.2.2.2.2.2.2.2.2 + x3)).toInt64)), o_this_status_L38.2.2.2)), (a_this_storage, oX6 a_this_storage_bytes a_this_storage_keys), (a_this_storage_bytes, .inl (k_this_storage_bytes, 2048, .inl r_this_storage_bytes))] := hD
            refine lv_iinc (v := (x3 + (1 : Int32))) (lv' := [(3, .int (x3 + (1 : Int32))), (2, .int (f_X3_faultOfPair o_this (f_X3_readFault o_this.2.2.2.2.2.2.2.2.1 (o_this.2.2.2.2.2.1 + (1 : Int32)) 1) (o_this.2.2.2.2.2.1 + (1 : Int32)))), (1, .int (o_this.2.2.2.2.2.1 + (1 : Int32))), (0, .ref a_this)]) hx hb dX3_compareBytes_91 hl (k := 0) rfl rfl (by decide) rfl (fun ls hl => ?_)
            refine lv_goto (tgt := 38) hx hb dX3_compareBytes_94 (by decide) ?_
            exact ih (o_this_status_L38.1, o_this_status_L38.2.1, (f_X7_order ((f_X6_byteAt r_this_storage_bytes (o_this.2.2.2.2.2.2.2.2.1 + x3)).toInt64) ((f_X6_byteAt r_this_storage_bytes (o_this.2.2.2.2.2.2.2.2.2 + x3)).toInt64)), o_this_status_L38.2.2.2) (x3 + (1 : Int32)) _ _ _ (by first | exact q_up hm c_3 | exact q_up hm c_5 | exact q_up hm c_6)  hP hD hS (lv_sub hl [0, 1, 2, 3] rfl) hF
    exact L38 ((((o_this.2.2.2.2.2.1 + (1 : Int32)) : Int32).toInt - (0 : Int32).toInt).toNat + 1) (o_this_status.1, o_this_status.2.1, 0, o_this_status.2.2.2) 0 _ _ _ (Nat.lt_succ_self _)  hP hD hS (lv_sub hl [0, 1, 2, 3] rfl) hF
  · skip
    rw [if_neg c_3] at hF
    refine lv_iload_n hx hb dX3_compareBytes_26 rfl (lv_at hl 0 rfl) ?_
    exact hQ (f_X3_faultOfPair o_this (f_X3_readFault o_this.2.2.2.2.2.2.2.2.1 (o_this.2.2.2.2.2.1 + (1 : Int32)) 1) (o_this.2.2.2.2.2.1 + (1 : Int32))) ((f_X3_faultOfPair o_this (f_X3_readFault o_this.2.2.2.2.2.2.2.2.1 (o_this.2.2.2.2.2.1 + (1 : Int32)) 1) (o_this.2.2.2.2.2.1 + (1 : Int32))), o_this_status) _ _ _ _ dX3_compareBytes_27 ⟨hF.symm, rfl⟩ hP hD hS
theorem cv_X3_compareBytes : qV yX3_compareBytes cX3_compareBytes 4 (some .int) 0 := ⟨kc_X3_compareBytes, kt_X3_compareBytes, ks_X3_compareBytes, kn_X3, by decide, by decide +kernel⟩
def f_X3_translateBytes_L33 (o_this : Bool × Int32 × Int32 × Int32 × Int32 × Int32 × Int32 × Int32 × Int32 × Int32) : Nat → (Nat → Int32) → Int32 → Int32 × (Nat → Int32)
  | 0, r_this_storage_bytes_L33, x3 => (0, r_this_storage_bytes_L33)
  | fuel + 1, r_this_storage_bytes_L33, x3 => (if (o_this.2.2.2.2.2.1 + (1 : Int32)) ≤ x3 then (0, r_this_storage_bytes_L33) else (q_let (f_X6_putByte r_this_storage_bytes_L33 (o_this.2.2.2.2.2.2.2.2.1 + x3) (f_X6_byteAt r_this_storage_bytes_L33 (o_this.2.2.2.2.2.2.2.2.2 + (f_X6_byteAt r_this_storage_bytes_L33 (o_this.2.2.2.2.2.2.2.2.1 + x3))))) fun w_8 => f_X3_translateBytes_L33 o_this fuel w_8 (x3 + (1 : Int32))))
def f_X3_translateBytes (o_this : Bool × Int32 × Int32 × Int32 × Int32 × Int32 × Int32 × Int32 × Int32 × Int32) (o_this_status : Int32 × Int32 × Int32 × Int32) (r_this_storage_bytes : Nat → Int32) (r_this_storage_keys : Nat → Int32) : Int32 × (Nat → Int32) := (if (f_X3_faultOfPair o_this (f_X3_storeFault o_this_status r_this_storage_keys o_this.2.2.2.2.2.2.2.2.1 (o_this.2.2.2.2.2.1 + (1 : Int32)) 1) 256) = 0 then f_X3_translateBytes_L33 o_this ((((o_this.2.2.2.2.2.1 + (1 : Int32)) : Int32).toInt - (0 : Int32).toInt).toNat + 1) r_this_storage_bytes 0 else ((f_X3_faultOfPair o_this (f_X3_storeFault o_this_status r_this_storage_keys o_this.2.2.2.2.2.2.2.2.1 (o_this.2.2.2.2.2.1 + (1 : Int32)) 1) 256), r_this_storage_bytes))
set_option linter.all false in
set_option maxHeartbeats 4000000 in
set_option maxRecDepth 100000 in
theorem c_X3_translateBytes (l : Launch) (D : va_G) (a_this a_this_status a_this_storage a_this_storage_bytes a_this_storage_keys a_this_channel a_this_registers a_this_first a_this_second : Nat) (k_this_storage_bytes k_this_storage_keys : ClassId) (o_this : Bool × Int32 × Int32 × Int32 × Int32 × Int32 × Int32 × Int32 × Int32 × Int32) (o_this_status : Int32 × Int32 × Int32 × Int32) (r_this_storage_bytes : Nat → Int32) (r_this_storage_keys : Nat → Int32) : CtI l yX3_translateBytes cX3_translateBytes 5 (some .int) { frames := 3, cells := 0, slots := 0, locals := 72 } D [.ref a_this] [(a_this, oX3 a_this_storage a_this_status a_this_channel a_this_registers a_this_first a_this_second o_this), (a_this_status, oX5 o_this_status), (a_this_storage, oX6 a_this_storage_bytes a_this_storage_keys), (a_this_storage_bytes, .inl (k_this_storage_bytes, 2048, .inl r_this_storage_bytes)), (a_this_storage_keys, .inl (k_this_storage_keys, 8, .inl r_this_storage_keys))] [(k_this_storage_bytes, .byte), (k_this_storage_keys, .int)] (fun (r : Int32) (u : Int32 × (Nat → Int32)) => f_X3_translateBytes o_this o_this_status r_this_storage_bytes r_this_storage_keys = u ∧ r = u.1) (fun u => [(a_this, oX3 a_this_storage a_this_status a_this_channel a_this_registers a_this_first a_this_second o_this), (a_this_status, oX5 o_this_status), (a_this_storage, oX6 a_this_storage_bytes a_this_storage_keys), (a_this_storage_bytes, .inl (k_this_storage_bytes, 2048, .inl u.2)), (a_this_storage_keys, .inl (k_this_storage_keys, 8, .inl r_this_storage_keys))]) := by
  refine CtI.of (by decide) (Nat.le_of_ble_eq_true rfl) ?_
  intro p e s m below meth c A ls Q hE hP hD hS hl hQ
  obtain ⟨hx, hb, hml, hown, ht, hN, hK, hA⟩ := hE
  have hown : s.vm.findClass RX3 = some m.cls := hown
  have hl : lv_has ls 5 [(0, .ref a_this)] := hl
  obtain ⟨F, hF⟩ : ∃ F, f_X3_translateBytes o_this o_this_status r_this_storage_bytes r_this_storage_keys = F := ⟨_, rfl⟩
  rw [hF] at hQ
  unfold f_X3_translateBytes at hF
  refine lv_aload_n hx hb dX3_translateBytes_0 rfl (lv_at hl 0 rfl) ?_
  refine gf_X3_139 (v := .int o_this.2.2.2.2.2.1) hx hb hown ht hK hP 0 rfl rfl dX3_translateBytes_1 ?_
  refine lv_iconst (v := 1) hx hb dX3_translateBytes_4 (by decide) ?_
  refine lv_iadd hx hb dX3_translateBytes_5 ?_
  refine lv_istore_n (lv' := [(1, .int (o_this.2.2.2.2.2.1 + (1 : Int32))), (0, .ref a_this)]) hx hb dX3_translateBytes_6 rfl hl (by decide) rfl (fun ls hl => ?_)
  refine lv_aload_n hx hb dX3_translateBytes_7 rfl (lv_at hl 1 rfl) ?_
  refine lv_aload_n hx hb dX3_translateBytes_8 rfl (lv_at hl 1 rfl) ?_
  refine lv_aload_n hx hb dX3_translateBytes_9 rfl (lv_at hl 1 rfl) ?_
  refine gf_X3_152 (v := .int o_this.2.2.2.2.2.2.2.2.1) hx hb hown ht hK hP 0 rfl rfl dX3_translateBytes_10 ?_
  refine lv_iload_n hx hb dX3_translateBytes_13 rfl (lv_at hl 0 rfl) ?_
  refine lv_iconst (v := 1) hx hb dX3_translateBytes_14 (by decide) ?_
  refine q_Vi (rest := [.ref a_this]) (c_X3_storeFault l D a_this a_this_status a_this_storage a_this_storage_keys a_this_channel a_this_registers a_this_first a_this_second a_this_storage_bytes k_this_storage_keys o_this o_this_status r_this_storage_keys o_this.2.2.2.2.2.2.2.2.1 (o_this.2.2.2.2.2.1 + (1 : Int32)) 1) cv_X3_storeFault hx hb hml hown ht hN hK hA hP hD hS hl.1 (km_X3_264) ⟨Nat.le_of_ble_eq_true rfl, Nat.le_of_ble_eq_true rfl⟩ rfl rfl [0, 1, 2, 4] (by decide) rfl [1] rfl (fun _ => rfl) (ci := 3) rfl rfl rfl rfl rfl (Nat.le_of_ble_eq_true rfl) dX3_translateBytes_15 ⟨Nat.zero_le _, Nat.zero_le _⟩ (fun r u H locs hw hP hD hS => ?_)
  obtain ⟨rfl, rfl⟩ := hw
  have hP : va_P D vwCl [(a_this, oX3 a_this_storage a_this_status a_this_channel a_this_registers a_this_first a_this_second o_this), (a_this_status, oX5 o_this_status), (a_this_storage, oX6 a_this_storage_bytes a_this_storage_keys), (a_this_storage_bytes, .inl (k_this_storage_bytes, 2048, .inl r_this_storage_bytes)), (a_this_storage_keys, .inl (k_this_storage_keys, 8, .inl r_this_storage_keys))] H := hP
  have hD : va_D A [(a_this, oX3 a_this_storage a_this_status a_this_channel a_this_registers a_this_first a_this_second o_this), (a_this_status, oX5 o_this_status), (a_this_storage, oX6 a_this_storage_bytes a_this_storage_keys), (a_this_storage_bytes, .inl (k_this_storage_bytes, 2048, .inl r_this_storage_bytes)), (a_this_storage_keys, .inl (k_this_storage_keys, 8, .inl r_this_storage_keys))] := hD
  refine lv_sipush (v := 256) hx hb dX3_translateBytes_18 (by decide) ?_
  refine q_Vi (rest := []) (c_X3_faultOfPair l D a_this a_this_storage a_this_status a_this_channel a_this_registers a_this_first a_this_second o_this (f_X3_storeFault o_this_status r_this_storage_keys o_this.2.2.2.2.2.2.2.2.1 (o_this.2.2.2.2.2.1 + (1 : Int32)) 1) 256) cv_X3_faultOfPair hx hb hml hown ht hN hK hA hP hD hS hl.1 (km_X3_341) ⟨Nat.le_of_ble_eq_true rfl, Nat.le_of_ble_eq_true rfl⟩ rfl rfl [0] (by decide) rfl [] rfl (fun _ => rfl) (ci := 3) rfl rfl rfl rfl rfl (Nat.le_of_ble_eq_true rfl) dX3_translateBytes_21 ⟨Nat.zero_le _, Nat.zero_le _⟩ (fun r u H locs hw hP hD hS => ?_)
  obtain ⟨rfl, rfl⟩ := hw
  have hP : va_P D vwCl [(a_this, oX3 a_this_storage a_this_status a_this_channel a_this_registers a_this_first a_this_second o_this), (a_this_status, oX5 o_this_status), (a_this_storage, oX6 a_this_storage_bytes a_this_storage_keys), (a_this_storage_bytes, .inl (k_this_storage_bytes, 2048, .inl r_this_storage_bytes)), (a_this_storage_keys, .inl (k_this_storage_keys, 8, .inl r_this_storage_keys))] H := hP
  have hD : va_D A [(a_this, oX3 a_this_storage a_this_status a_this_channel a_this_registers a_this_first a_this_second o_this), (a_this_status, oX5 o_this_status), (a_this_storage, oX6 a_this_storage_bytes a_this_storage_keys), (a_this_storage_bytes, .inl (k_this_storage_bytes, 2048, .inl r_this_storage_bytes)), (a_this_storage_keys, .inl (k_this_storage_keys, 8, .inl r_this_storage_keys))] := hD
  refine lv_istore_n (lv' := [(2, .int (f_X3_faultOfPair o_this (f_X3_storeFault o_this_status r_this_storage_keys o_this.2.2.2.2.2.2.2.2.1 (o_this.2.2.2.2.2.1 + (1 : Int32)) 1) 256)), (1, .int (o_this.2.2.2.2.2.1 + (1 : Int32))), (0, .ref a_this)]) hx hb dX3_translateBytes_24 rfl hl (by decide) rfl (fun ls hl => ?_)
  refine lv_iload_n hx hb dX3_translateBytes_25 rfl (lv_at hl 0 rfl) ?_
  refine lv_if_eq (tgt := 31) hx hb dX3_translateBytes_26 (by decide) (fun c_3 => ?_) (fun c_3 => ?_)
  · skip
    rw [if_pos c_3] at hF
    refine lv_iconst (v := 0) hx hb dX3_translateBytes_31 (by decide) ?_
    refine lv_istore_n (lv' := [(3, .int 0), (2, .int (f_X3_faultOfPair o_this (f_X3_storeFault o_this_status r_this_storage_keys o_this.2.2.2.2.2.2.2.2.1 (o_this.2.2.2.2.2.1 + (1 : Int32)) 1) 256)), (1, .int (o_this.2.2.2.2.2.1 + (1 : Int32))), (0, .ref a_this)]) hx hb dX3_translateBytes_32 rfl hl (by decide) rfl (fun ls hl => ?_)
    have L33 : ∀ (fuel : Nat) (r_this_storage_bytes_L33 : Nat → Int32) (x3 : Int32) (H : Heap) (locs : List Loc) (ls : Array Slot), (((o_this.2.2.2.2.2.1 + (1 : Int32)) : Int32).toInt - (x3 : Int32).toInt).toNat < fuel → va_P D vwCl [(a_this, oX3 a_this_storage a_this_status a_this_channel a_this_registers a_this_first a_this_second o_this), (a_this_status, oX5 o_this_status), (a_this_storage, oX6 a_this_storage_bytes a_this_storage_keys), (a_this_storage_bytes, .inl (k_this_storage_bytes, 2048, .inl r_this_storage_bytes_L33)), (a_this_storage_keys, .inl (k_this_storage_keys, 8, .inl r_this_storage_keys))] H → va_D A [(a_this, oX3 a_this_storage a_this_status a_this_channel a_this_registers a_this_first a_this_second o_this), (a_this_status, oX5 o_this_status), (a_this_storage, oX6 a_this_storage_bytes a_this_storage_keys), (a_this_storage_bytes, .inl (k_this_storage_bytes, 2048, .inl r_this_storage_bytes_L33)), (a_this_storage_keys, .inl (k_this_storage_keys, 8, .inl r_this_storage_keys))] → va_S A s.heap H locs → lv_has ls 5 [(3, .int x3), (2, .int (f_X3_faultOfPair o_this (f_X3_storeFault o_this_status r_this_storage_keys o_this.2.2.2.2.2.2.2.2.1 (o_this.2.2.2.2.2.1 + (1 : Int32)) 1) 256)), (1, .int (o_this.2.2.2.2.2.1 + (1 : Int32))), (0, .ref a_this)] → f_X3_translateBytes_L33 o_this fuel r_this_storage_bytes_L33 x3 = F → W p l e ({ frames := 3, cells := 0, slots := 0, locals := 72 } : Room) s m ([.ref a_this] : List Value).toArray below meth c H locs 0 0 Q (F0 m 33 ls []) := by
      intro fuel
      induction fuel with
      | zero => intro r_this_storage_bytes_L33 x3 H locs ls hm; exact absurd hm (Nat.not_lt_zero _)
      | succ fuel ih =>
        intro r_this_storage_bytes_L33 x3 H locs ls hm  hP hD hS hl hF
        rw [f_X3_translateBytes_L33] at hF
        skip
        refine lv_iload_n hx hb dX3_translateBytes_33 rfl (lv_at hl 0 rfl) ?_
        refine lv_iload_n hx hb dX3_translateBytes_34 rfl (lv_at hl 2 rfl) ?_
        refine lv_icmp_ge (tgt := 86) hx hb dX3_translateBytes_35 (by decide) (fun c_5 => ?_) (fun c_5 => ?_)
        · skip
          rw [if_pos c_5] at hF
          refine lv_iconst (v := 0) hx hb dX3_translateBytes_86 (by decide) ?_
          exact hQ 0 (0, r_this_storage_bytes_L33) _ _ _ _ dX3_translateBytes_87 ⟨hF.symm, rfl⟩ hP hD hS
        · skip
          rw [if_neg c_5] at hF
          refine lv_aload_n hx hb dX3_translateBytes_38 rfl (lv_at hl 3 rfl) ?_
          refine gf_X3_155 (v := .int o_this.2.2.2.2.2.2.2.2.2) hx hb hown ht hK hP 0 rfl rfl dX3_translateBytes_39 ?_
          refine lv_aload_n hx hb dX3_translateBytes_42 rfl (lv_at hl 3 rfl) ?_
          refine gf_X3_12 (v := .ref a_this_storage) hx hb hown ht hK hP 0 rfl rfl dX3_translateBytes_43 ?_
          refine lv_aload_n hx hb dX3_translateBytes_46 rfl (lv_at hl 3 rfl) ?_
          refine gf_X3_152 (v := .int o_this.2.2.2.2.2.2.2.2.1) hx hb hown ht hK hP 0 rfl rfl dX3_translateBytes_47 ?_
          refine lv_iload_n hx hb dX3_translateBytes_50 rfl (lv_at hl 0 rfl) ?_
          refine lv_iadd hx hb dX3_translateBytes_51 ?_
          refine q_Vi (rest := [.int o_this.2.2.2.2.2.2.2.2.2]) (c_X6_byteAt l D a_this_storage a_this_storage_bytes a_this_storage_keys k_this_storage_bytes r_this_storage_bytes_L33 (o_this.2.2.2.2.2.2.2.2.1 + x3)) cv_X6_byteAt hx hb hml hown ht hN hK hA hP hD hS hl.1 (km_X3_119) ⟨Nat.le_of_ble_eq_true rfl, Nat.le_of_ble_eq_true rfl⟩ rfl rfl [2, 3] (by decide) rfl [0] rfl (fun _ => rfl) (ci := 6) rfl rfl rfl rfl rfl (Nat.le_of_ble_eq_true rfl) dX3_translateBytes_52 ⟨Nat.zero_le _, Nat.zero_le _⟩ (fun r u H locs hw hP hD hS => ?_)
          obtain ⟨rfl, rfl⟩ := hw
          have hP : va_P D vwCl [(a_this, oX3 a_this_storage a_this_status a_this_channel a_this_registers a_this_first a_this_second o_this), (a_this_status, oX5 o_this_status), (a_this_storage, oX6 a_this_storage_bytes a_this_storage_keys), (a_this_storage_bytes, .inl (k_this_storage_bytes, 2048, .inl r_this_storage_bytes_L33)), (a_this_storage_keys, .inl (k_this_storage_keys, 8, .inl r_this_storage_keys))] H := hP
          have hD : va_D A [(a_this, oX3 a_this_storage a_this_status a_this_channel a_this_registers a_this_first a_this_second o_this), (a_this_status, oX5 o_this_status), (a_this_storage, oX6 a_this_storage_bytes a_this_storage_keys), (a_this_storage_bytes, .inl (k_this_storage_bytes, 2048, .inl r_this_storage_bytes_L33)), (a_this_storage_keys, .inl (k_this_storage_keys, 8, .inl r_this_storage_keys))] := hD
          refine lv_iadd hx hb dX3_translateBytes_55 ?_
          refine lv_istore (lv' := [(4, .int (o_this.2.2.2.2.2.2.2.2.2 + (f_X6_byteAt r_this_storage_bytes_L33 (o_this.2.2.2.2.2.2.2.2.1 + x3)))), (3, .int x3), (2, .int (f_X3_faultOfPair o_this (f_X3_storeFault o_this_status r_this_storage_keys o_this.2.2.2.2.2.2.2.2.1 (o_this.2.2.2.2.2.1 + (1 : Int32)) 1) 256)), (1, .int (o_this.2.2.2.2.2.1 + (1 : Int32))), (0, .ref a_this)]) hx hb dX3_translateBytes_56 hl (by decide) rfl (fun ls hl => ?_)
          refine lv_aload_n hx hb dX3_translateBytes_58 rfl (lv_at hl 4 rfl) ?_
          refine gf_X3_12 (v := .ref a_this_storage) hx hb hown ht hK hP 0 rfl rfl dX3_translateBytes_59 ?_
          refine lv_aload_n hx hb dX3_translateBytes_62 rfl (lv_at hl 4 rfl) ?_
          refine gf_X3_152 (v := .int o_this.2.2.2.2.2.2.2.2.1) hx hb hown ht hK hP 0 rfl rfl dX3_translateBytes_63 ?_
          refine lv_iload_n hx hb dX3_translateBytes_66 rfl (lv_at hl 1 rfl) ?_
          refine lv_iadd hx hb dX3_translateBytes_67 ?_
          refine lv_aload_n hx hb dX3_translateBytes_68 rfl (lv_at hl 4 rfl) ?_
          refine gf_X3_12 (v := .ref a_this_storage) hx hb hown ht hK hP 0 rfl rfl dX3_translateBytes_69 ?_
          refine lv_iload hx hb dX3_translateBytes_72 (lv_at hl 0 rfl) ?_
          refine q_Vi (rest := [.int (o_this.2.2.2.2.2.2.2.2.1 + x3), .ref a_this_storage]) (c_X6_byteAt l D a_this_storage a_this_storage_bytes a_this_storage_keys k_this_storage_bytes r_this_storage_bytes_L33 (o_this.2.2.2.2.2.2.2.2.2 + (f_X6_byteAt r_this_storage_bytes_L33 (o_this.2.2.2.2.2.2.2.2.1 + x3)))) cv_X6_byteAt hx hb hml hown ht hN hK hA hP hD hS hl.1 (km_X3_119) ⟨Nat.le_of_ble_eq_true rfl, Nat.le_of_ble_eq_true rfl⟩ rfl rfl [2, 3] (by decide) rfl [0] rfl (fun _ => rfl) (ci := 6) rfl rfl rfl rfl rfl (Nat.le_of_ble_eq_true rfl) dX3_translateBytes_74 ⟨Nat.zero_le _, Nat.zero_le _⟩ (fun r u H locs hw hP hD hS => ?_)
          obtain ⟨rfl, rfl⟩ := hw
          have hP : va_P D vwCl [(a_this, oX3 a_this_storage a_this_status a_this_channel a_this_registers a_this_first a_this_second o_this), (a_this_status, oX5 o_this_status), (a_this_storage, oX6 a_this_storage_bytes a_this_storage_keys), (a_this_storage_bytes, .inl (k_this_storage_bytes, 2048, .inl r_this_storage_bytes_L33)), (a_this_storage_keys, .inl (k_this_storage_keys, 8, .inl r_this_storage_keys))] H := hP
          have hD : va_D A [(a_this, oX3 a_this_storage a_this_status a_this_channel a_this_registers a_this_first a_this_second o_this), (a_this_status, oX5 o_this_status), (a_this_storage, oX6 a_this_storage_bytes a_this_storage_keys), (a_this_storage_bytes, .inl (k_this_storage_bytes, 2048, .inl r_this_storage_bytes_L33)), (a_this_storage_keys, .inl (k_this_storage_keys, 8, .inl r_this_storage_keys))] := hD
          refine q_Vv (rest := []) (c_X6_putByte l D a_this_storage a_this_storage_bytes a_this_storage_keys k_this_storage_bytes r_this_storage_bytes_L33 (o_this.2.2.2.2.2.2.2.2.1 + x3) (f_X6_byteAt r_this_storage_bytes_L33 (o_this.2.2.2.2.2.2.2.2.2 + (f_X6_byteAt r_this_storage_bytes_L33 (o_this.2.2.2.2.2.2.2.2.1 + x3))))) cv_X6_putByte hx hb hml hown ht hN hK hA hP hD hS hl.1 (km_X3_270) ⟨Nat.le_of_ble_eq_true rfl, Nat.le_of_ble_eq_true rfl⟩ rfl rfl [2, 3] (by decide) rfl [0] rfl (fun _ => rfl) (ci := 6) rfl rfl rfl rfl rfl (Nat.le_of_ble_eq_true rfl) dX3_translateBytes_77 ⟨Nat.zero_le _, Nat.zero_le _⟩ (fun w_8 H locs hw hP hD hS => ?_)
          have hP : va_P D vwCl [(a_this, oX3 a_this_storage a_this_status a_this_channel a_this_registers a_this_first a_this_second o_this), (a_this_status, oX5 o_this_status), (a_this_storage, oX6 a_this_storage_bytes a_this_storage_keys), (a_this_storage_bytes, .inl (k_this_storage_bytes, 2048, .inl w_8)), (a_this_storage_keys, .inl (k_this_storage_keys, 8, .inl r_this_storage_keys))] H := hP
          have hD : va_D A [(a_this, oX3 a_this_storage a_this_status a_this_channel a_this_registers a_this_first a_this_second o_this), (a_this_status, oX5 o_this_status), (a_this_storage, oX6 a_this_storage_bytes a_this_storage_keys), (a_this_storage_bytes, .inl (k_this_storage_bytes, 2048, .inl w_8)), (a_this_storage_keys, .inl (k_this_storage_keys, 8, .inl r_this_storage_keys))] := hD
          rw [q_let_of hw] at hF
          refine lv_iinc (v := (x3 + (1 : Int32))) (lv' := [(3, .int (x3 + (1 : Int32))), (4, .int (o_this.2.2.2.2.2.2.2.2.2 + (f_X6_byteAt r_this_storage_bytes_L33 (o_this.2.2.2.2.2.2.2.2.1 + x3)))), (2, .int (f_X3_faultOfPair o_this (f_X3_storeFault o_this_status r_this_storage_keys o_this.2.2.2.2.2.2.2.2.1 (o_this.2.2.2.2.2.1 + (1 : Int32)) 1) 256)), (1, .int (o_this.2.2.2.2.2.1 + (1 : Int32))), (0, .ref a_this)]) hx hb dX3_translateBytes_80 hl (k := 1) rfl rfl (by decide) rfl (fun ls hl => ?_)
          refine lv_goto (tgt := 33) hx hb dX3_translateBytes_83 (by decide) ?_
          exact ih w_8 (x3 + (1 : Int32)) _ _ _ (by first | exact q_up hm c_3 | exact q_up hm c_5)  hP hD hS (lv_sub hl [0, 2, 3, 4] rfl) hF
    exact L33 ((((o_this.2.2.2.2.2.1 + (1 : Int32)) : Int32).toInt - (0 : Int32).toInt).toNat + 1) r_this_storage_bytes 0 _ _ _ (Nat.lt_succ_self _)  hP hD hS (lv_sub hl [0, 1, 2, 3] rfl) hF
  · skip
    rw [if_neg c_3] at hF
    refine lv_iload_n hx hb dX3_translateBytes_29 rfl (lv_at hl 0 rfl) ?_
    exact hQ (f_X3_faultOfPair o_this (f_X3_storeFault o_this_status r_this_storage_keys o_this.2.2.2.2.2.2.2.2.1 (o_this.2.2.2.2.2.1 + (1 : Int32)) 1) 256) ((f_X3_faultOfPair o_this (f_X3_storeFault o_this_status r_this_storage_keys o_this.2.2.2.2.2.2.2.2.1 (o_this.2.2.2.2.2.1 + (1 : Int32)) 1) 256), r_this_storage_bytes) _ _ _ _ dX3_translateBytes_30 ⟨hF.symm, rfl⟩ hP hD hS
theorem cv_X3_translateBytes : qV yX3_translateBytes cX3_translateBytes 5 (some .int) 0 := ⟨kc_X3_translateBytes, kt_X3_translateBytes, ks_X3_translateBytes, kn_X3, by decide, by decide +kernel⟩
def f_X3_putPacked (o_this : Bool × Int32 × Int32 × Int32 × Int32 × Int32 × Int32 × Int32 × Int32 × Int32) (o_this_first : Bool) (r_this_first_digits : Nat → Int32) (o_this_status : Int32 × Int32 × Int32 × Int32) (r_this_storage_bytes : Nat → Int32) : Int32 × (Int32 × Int32 × Int32 × Int32) × (Nat → Int32) := (q_let (f_X1_putTo o_this_first r_this_first_digits r_this_storage_bytes o_this.2.2.2.2.2.2.2.2.1 (o_this.2.2.2.2.2.2.1 + (1 : Int32))) fun w_1 => (if w_1.1 = true then (0, (o_this_status.1, o_this_status.2.1, (f_X1_signCode o_this_first r_this_first_digits), o_this_status.2.2.2), w_1.2) else (if (f_X5_allows (o_this_status.1, o_this_status.2.1, 3, o_this_status.2.2.2) 16) = true then (10, (o_this_status.1, o_this_status.2.1, 3, o_this_status.2.2.2), w_1.2) else (0, (o_this_status.1, o_this_status.2.1, 3, o_this_status.2.2.2), w_1.2))))
set_option linter.all false in
set_option maxHeartbeats 4000000 in
set_option maxRecDepth 100000 in
theorem c_X3_putPacked (l : Launch) (D : va_G) (a_this a_this_first a_this_first_digits a_this_status a_this_storage a_this_storage_bytes a_this_channel a_this_registers a_this_second a_this_storage_keys : Nat) (k_this_first_digits k_this_storage_bytes : ClassId) (o_this : Bool × Int32 × Int32 × Int32 × Int32 × Int32 × Int32 × Int32 × Int32 × Int32) (o_this_first : Bool) (r_this_first_digits : Nat → Int32) (o_this_status : Int32 × Int32 × Int32 × Int32) (r_this_storage_bytes : Nat → Int32) : CtI l yX3_putPacked cX3_putPacked 1 (some .int) { frames := 2, cells := 0, slots := 0, locals := 48 } D [.ref a_this] [(a_this, oX3 a_this_storage a_this_status a_this_channel a_this_registers a_this_first a_this_second o_this), (a_this_first, oX1 a_this_first_digits o_this_first), (a_this_first_digits, .inl (k_this_first_digits, 32, .inl r_this_first_digits)), (a_this_status, oX5 o_this_status), (a_this_storage, oX6 a_this_storage_bytes a_this_storage_keys), (a_this_storage_bytes, .inl (k_this_storage_bytes, 2048, .inl r_this_storage_bytes))] [(k_this_first_digits, .int), (k_this_storage_bytes, .byte)] (fun (r : Int32) (u : Int32 × (Int32 × Int32 × Int32 × Int32) × (Nat → Int32)) => f_X3_putPacked o_this o_this_first r_this_first_digits o_this_status r_this_storage_bytes = u ∧ r = u.1) (fun u => [(a_this, oX3 a_this_storage a_this_status a_this_channel a_this_registers a_this_first a_this_second o_this), (a_this_first, oX1 a_this_first_digits o_this_first), (a_this_first_digits, .inl (k_this_first_digits, 32, .inl r_this_first_digits)), (a_this_status, oX5 u.2.1), (a_this_storage, oX6 a_this_storage_bytes a_this_storage_keys), (a_this_storage_bytes, .inl (k_this_storage_bytes, 2048, .inl u.2.2))]) := by
  refine CtI.of (by decide) (Nat.le_of_ble_eq_true rfl) ?_
  intro p e s m below meth c A ls Q hE hP hD hS hl hQ
  obtain ⟨hx, hb, hml, hown, ht, hN, hK, hA⟩ := hE
  have hown : s.vm.findClass RX3 = some m.cls := hown
  have hl : lv_has ls 1 [(0, .ref a_this)] := hl
  obtain ⟨F, hF⟩ : ∃ F, f_X3_putPacked o_this o_this_first r_this_first_digits o_this_status r_this_storage_bytes = F := ⟨_, rfl⟩
  rw [hF] at hQ
  unfold f_X3_putPacked at hF
  refine lv_aload_n hx hb dX3_putPacked_0 rfl (lv_at hl 0 rfl) ?_
  refine gf_X3_39 (v := .ref a_this_first) hx hb hown ht hK hP 0 rfl rfl dX3_putPacked_1 ?_
  refine lv_aload_n hx hb dX3_putPacked_4 rfl (lv_at hl 0 rfl) ?_
  refine gf_X3_12 (v := .ref a_this_storage) hx hb hown ht hK hP 0 rfl rfl dX3_putPacked_5 ?_
  refine lv_aload_n hx hb dX3_putPacked_8 rfl (lv_at hl 0 rfl) ?_
  refine gf_X3_152 (v := .int o_this.2.2.2.2.2.2.2.2.1) hx hb hown ht hK hP 0 rfl rfl dX3_putPacked_9 ?_
  refine lv_aload_n hx hb dX3_putPacked_12 rfl (lv_at hl 0 rfl) ?_
  refine gf_X3_142 (v := .int o_this.2.2.2.2.2.2.1) hx hb hown ht hK hP 0 rfl rfl dX3_putPacked_13 ?_
  refine lv_iconst (v := 1) hx hb dX3_putPacked_16 (by decide) ?_
  refine lv_iadd hx hb dX3_putPacked_17 ?_
  refine q_Vi (rest := []) (c_X1_putTo l D a_this_first a_this_first_digits a_this_storage a_this_storage_bytes a_this_storage_keys k_this_first_digits k_this_storage_bytes o_this_first r_this_first_digits r_this_storage_bytes o_this.2.2.2.2.2.2.2.2.1 (o_this.2.2.2.2.2.2.1 + (1 : Int32))) cv_X1_putTo hx hb hml hown ht hN hK hA hP hD hS hl.1 (km_X3_276) ⟨Nat.le_of_ble_eq_true rfl, Nat.le_of_ble_eq_true rfl⟩ rfl rfl [1, 2, 4, 5] (by decide) rfl [0, 1] rfl (fun _ => rfl) (ci := 1) rfl rfl rfl rfl rfl (Nat.le_of_ble_eq_true rfl) dX3_putPacked_18 ⟨Nat.zero_le _, Nat.zero_le _⟩ (fun r w_1 H locs hw hP hD hS => ?_)
  obtain ⟨hw, hr⟩ := hw
  subst hr
  have hP : va_P D vwCl [(a_this, oX3 a_this_storage a_this_status a_this_channel a_this_registers a_this_first a_this_second o_this), (a_this_first, oX1 a_this_first_digits o_this_first), (a_this_first_digits, .inl (k_this_first_digits, 32, .inl r_this_first_digits)), (a_this_status, oX5 o_this_status), (a_this_storage, oX6 a_this_storage_bytes a_this_storage_keys), (a_this_storage_bytes, .inl (k_this_storage_bytes, 2048, .inl w_1.2))] H := hP
  have hD : va_D A [(a_this, oX3 a_this_storage a_this_status a_this_channel a_this_registers a_this_first a_this_second o_this), (a_this_first, oX1 a_this_first_digits o_this_first), (a_this_first_digits, .inl (k_this_first_digits, 32, .inl r_this_first_digits)), (a_this_status, oX5 o_this_status), (a_this_storage, oX6 a_this_storage_bytes a_this_storage_keys), (a_this_storage_bytes, .inl (k_this_storage_bytes, 2048, .inl w_1.2))] := hD
  rw [q_let_of hw] at hF
  refine lv_if_eq (tgt := 40) hx hb dX3_putPacked_21 (by decide) (fun c_2 => ?_) (fun c_2 => ?_)
  · have c_2 : ¬ w_1.1 = true := by rw [(bI_eq0 _).mp c_2]; decide
    rw [if_neg c_2] at hF
    refine lv_aload_n hx hb dX3_putPacked_40 rfl (lv_at hl 0 rfl) ?_
    refine gf_X3_21 (v := .ref a_this_status) hx hb hown ht hK hP 0 rfl rfl dX3_putPacked_41 ?_
    refine lv_iconst (v := 3) hx hb dX3_putPacked_44 (by decide) ?_
    refine pf_X3_209 (x := 3) hx hb hown ht hK hP hD hS 3 rfl (Nat.le_of_ble_eq_true rfl) dX3_putPacked_45 (fun H locs hP hD hS => ?_)
    have hP : va_P D vwCl [(a_this, oX3 a_this_storage a_this_status a_this_channel a_this_registers a_this_first a_this_second o_this), (a_this_first, oX1 a_this_first_digits o_this_first), (a_this_first_digits, .inl (k_this_first_digits, 32, .inl r_this_first_digits)), (a_this_status, oX5 (o_this_status.1, o_this_status.2.1, 3, o_this_status.2.2.2)), (a_this_storage, oX6 a_this_storage_bytes a_this_storage_keys), (a_this_storage_bytes, .inl (k_this_storage_bytes, 2048, .inl w_1.2))] H := hP
    have hD : va_D A [(a_this, oX3 a_this_storage a_this_status a_this_channel a_this_registers a_this_first a_this_second o_this), (a_this_first, oX1 a_this_first_digits o_this_first), (a_this_first_digits, .inl (k_this_first_digits, 32, .inl r_this_first_digits)), (a_this_status, oX5 (o_this_status.1, o_this_status.2.1, 3, o_this_status.2.2.2)), (a_this_storage, oX6 a_this_storage_bytes a_this_storage_keys), (a_this_storage_bytes, .inl (k_this_storage_bytes, 2048, .inl w_1.2))] := hD
    refine lv_aload_n hx hb dX3_putPacked_48 rfl (lv_at hl 0 rfl) ?_
    refine gf_X3_21 (v := .ref a_this_status) hx hb hown ht hK hP 0 rfl rfl dX3_putPacked_49 ?_
    refine lv_bipush (v := 16) hx hb dX3_putPacked_52 (by decide) ?_
    refine q_Vi (rest := []) (c_X5_allows l D a_this_status (o_this_status.1, o_this_status.2.1, 3, o_this_status.2.2.2) 16) cv_X5_allows hx hb hml hown ht hN hK hA hP hD hS hl.1 (km_X3_90) ⟨Nat.le_of_ble_eq_true rfl, Nat.le_of_ble_eq_true rfl⟩ rfl rfl [3] (by decide) rfl [] rfl (fun _ => rfl) (ci := 5) rfl rfl rfl rfl rfl (Nat.le_of_ble_eq_true rfl) dX3_putPacked_54 ⟨Nat.zero_le _, Nat.zero_le _⟩ (fun r u H locs hw hP hD hS => ?_)
    obtain ⟨rfl, rfl⟩ := hw
    have hP : va_P D vwCl [(a_this, oX3 a_this_storage a_this_status a_this_channel a_this_registers a_this_first a_this_second o_this), (a_this_first, oX1 a_this_first_digits o_this_first), (a_this_first_digits, .inl (k_this_first_digits, 32, .inl r_this_first_digits)), (a_this_status, oX5 (o_this_status.1, o_this_status.2.1, 3, o_this_status.2.2.2)), (a_this_storage, oX6 a_this_storage_bytes a_this_storage_keys), (a_this_storage_bytes, .inl (k_this_storage_bytes, 2048, .inl w_1.2))] H := hP
    have hD : va_D A [(a_this, oX3 a_this_storage a_this_status a_this_channel a_this_registers a_this_first a_this_second o_this), (a_this_first, oX1 a_this_first_digits o_this_first), (a_this_first_digits, .inl (k_this_first_digits, 32, .inl r_this_first_digits)), (a_this_status, oX5 (o_this_status.1, o_this_status.2.1, 3, o_this_status.2.2.2)), (a_this_storage, oX6 a_this_storage_bytes a_this_storage_keys), (a_this_storage_bytes, .inl (k_this_storage_bytes, 2048, .inl w_1.2))] := hD
    refine lv_if_eq (tgt := 65) hx hb dX3_putPacked_57 (by decide) (fun c_4 => ?_) (fun c_4 => ?_)
    · have c_4 : ¬ (f_X5_allows (o_this_status.1, o_this_status.2.1, 3, o_this_status.2.2.2) 16) = true := by rw [(bI_eq0 _).mp c_4]; decide
      rw [if_neg c_4] at hF
      refine lv_iconst (v := 0) hx hb dX3_putPacked_65 (by decide) ?_
      exact hQ 0 (0, (o_this_status.1, o_this_status.2.1, 3, o_this_status.2.2.2), w_1.2) _ _ _ _ dX3_putPacked_66 ⟨hF.symm, rfl⟩ hP hD hS
    · have c_4 := (bI_ne0 _).mp c_4
      rw [if_pos c_4] at hF
      refine lv_bipush (v := 10) hx hb dX3_putPacked_60 (by decide) ?_
      refine lv_goto (tgt := 66) hx hb dX3_putPacked_62 (by decide) ?_
      exact hQ 10 (10, (o_this_status.1, o_this_status.2.1, 3, o_this_status.2.2.2), w_1.2) _ _ _ _ dX3_putPacked_66 ⟨hF.symm, rfl⟩ hP hD hS
  · have c_2 := (bI_ne0 _).mp c_2
    rw [if_pos c_2] at hF
    refine lv_aload_n hx hb dX3_putPacked_24 rfl (lv_at hl 0 rfl) ?_
    refine gf_X3_21 (v := .ref a_this_status) hx hb hown ht hK hP 0 rfl rfl dX3_putPacked_25 ?_
    refine lv_aload_n hx hb dX3_putPacked_28 rfl (lv_at hl 0 rfl) ?_
    refine gf_X3_39 (v := .ref a_this_first) hx hb hown ht hK hP 0 rfl rfl dX3_putPacked_29 ?_
    refine q_Vi (rest := [.ref a_this_status]) (c_X1_signCode l D a_this_first a_this_first_digits k_this_first_digits o_this_first r_this_first_digits) cv_X1_signCode hx hb hml hown ht hN hK hA hP hD hS hl.1 (km_X3_354) ⟨Nat.le_of_ble_eq_true rfl, Nat.le_of_ble_eq_true rfl⟩ rfl rfl [1, 2] (by decide) rfl [0] rfl (fun _ => rfl) (ci := 1) rfl rfl rfl rfl rfl (Nat.le_of_ble_eq_true rfl) dX3_putPacked_32 ⟨Nat.zero_le _, Nat.zero_le _⟩ (fun r u H locs hw hP hD hS => ?_)
    obtain ⟨rfl, rfl⟩ := hw
    have hP : va_P D vwCl [(a_this, oX3 a_this_storage a_this_status a_this_channel a_this_registers a_this_first a_this_second o_this), (a_this_first, oX1 a_this_first_digits o_this_first), (a_this_first_digits, .inl (k_this_first_digits, 32, .inl r_this_first_digits)), (a_this_status, oX5 o_this_status), (a_this_storage, oX6 a_this_storage_bytes a_this_storage_keys), (a_this_storage_bytes, .inl (k_this_storage_bytes, 2048, .inl w_1.2))] H := hP
    have hD : va_D A [(a_this, oX3 a_this_storage a_this_status a_this_channel a_this_registers a_this_first a_this_second o_this), (a_this_first, oX1 a_this_first_digits o_this_first), (a_this_first_digits, .inl (k_this_first_digits, 32, .inl r_this_first_digits)), (a_this_status, oX5 o_this_status), (a_this_storage, oX6 a_this_storage_bytes a_this_storage_keys), (a_this_storage_bytes, .inl (k_this_storage_bytes, 2048, .inl w_1.2))] := hD
    refine pf_X3_209 (x := (f_X1_signCode o_this_first r_this_first_digits)) hx hb hown ht hK hP hD hS 3 rfl (Nat.le_of_ble_eq_true rfl) dX3_putPacked_35 (fun H locs hP hD hS => ?_)
    have hP : va_P D vwCl [(a_this, oX3 a_this_storage a_this_status a_this_channel a_this_registers a_this_first a_this_second o_this), (a_this_first, oX1 a_this_first_digits o_this_first), (a_this_first_digits, .inl (k_this_first_digits, 32, .inl r_this_first_digits)), (a_this_status, oX5 (o_this_status.1, o_this_status.2.1, (f_X1_signCode o_this_first r_this_first_digits), o_this_status.2.2.2)), (a_this_storage, oX6 a_this_storage_bytes a_this_storage_keys), (a_this_storage_bytes, .inl (k_this_storage_bytes, 2048, .inl w_1.2))] H := hP
    have hD : va_D A [(a_this, oX3 a_this_storage a_this_status a_this_channel a_this_registers a_this_first a_this_second o_this), (a_this_first, oX1 a_this_first_digits o_this_first), (a_this_first_digits, .inl (k_this_first_digits, 32, .inl r_this_first_digits)), (a_this_status, oX5 (o_this_status.1, o_this_status.2.1, (f_X1_signCode o_this_first r_this_first_digits), o_this_status.2.2.2)), (a_this_storage, oX6 a_this_storage_bytes a_this_storage_keys), (a_this_storage_bytes, .inl (k_this_storage_bytes, 2048, .inl w_1.2))] := hD
    refine lv_iconst (v := 0) hx hb dX3_putPacked_38 (by decide) ?_
    exact hQ 0 (0, (o_this_status.1, o_this_status.2.1, (f_X1_signCode o_this_first r_this_first_digits), o_this_status.2.2.2), w_1.2) _ _ _ _ dX3_putPacked_39 ⟨hF.symm, rfl⟩ hP hD hS
theorem cv_X3_putPacked : qV yX3_putPacked cX3_putPacked 1 (some .int) 0 := ⟨kc_X3_putPacked, kt_X3_putPacked, ks_X3_putPacked, kn_X3, by decide, by decide +kernel⟩
def f_X3_calculatePacked (o_this : Bool × Int32 × Int32 × Int32 × Int32 × Int32 × Int32 × Int32 × Int32 × Int32) (o_this_first : Bool) (r_this_first_digits : Nat → Int32) (o_this_second : Bool) (r_this_second_digits : Nat → Int32) (o_this_status : Int32 × Int32 × Int32 × Int32) (r_this_storage_bytes : Nat → Int32) (r_this_storage_keys : Nat → Int32) : Int32 × Bool × (Nat → Int32) × Bool × (Nat → Int32) × (Int32 × Int32 × Int32 × Int32) × (Nat → Int32) := (if (f_X3_faultOfPair o_this (f_X3_storeFault o_this_status r_this_storage_keys o_this.2.2.2.2.2.2.2.2.1 (o_this.2.2.2.2.2.2.1 + (1 : Int32)) 1) (o_this.2.2.2.2.2.2.2.1 + (1 : Int32))) = 0 then (q_let (f_X1_takeFrom o_this_second r_this_second_digits r_this_storage_bytes o_this.2.2.2.2.2.2.2.2.2 (o_this.2.2.2.2.2.2.2.1 + (1 : Int32))) fun w_4 => (if w_4.1 = true then (if o_this.2.2.2.2.1 = (248 : Int32) then (q_let (f_X1_becomeInt r_this_first_digits 0) fun w_14 => (if o_this.2.2.2.2.1 = (251 : Int32) then (q_let (f_X1_subtract w_14.1 w_14.2 w_4.2.1 w_4.2.2) fun w_18 => (q_let (f_X3_putPacked o_this w_18.1 w_18.2 o_this_status r_this_storage_bytes) fun w_19 => (w_19.1, w_18.1, w_18.2, w_4.2.1, w_4.2.2, w_19.2.1, w_19.2.2))) else (q_let (f_X1_add w_14.1 w_14.2 w_4.2.1 w_4.2.2) fun w_16 => (q_let (f_X3_putPacked o_this w_16.1 w_16.2 o_this_status r_this_storage_bytes) fun w_17 => (w_17.1, w_16.1, w_16.2, w_4.2.1, w_4.2.2, w_17.2.1, w_17.2.2))))) else (q_let (f_X1_takeFrom o_this_first r_this_first_digits r_this_storage_bytes o_this.2.2.2.2.2.2.2.2.1 (o_this.2.2.2.2.2.2.1 + (1 : Int32))) fun w_7 => (if w_7.1 = true then (if o_this.2.2.2.2.1 = (251 : Int32) then (q_let (f_X1_subtract w_7.2.1 w_7.2.2 w_4.2.1 w_4.2.2) fun w_12 => (q_let (f_X3_putPacked o_this w_12.1 w_12.2 o_this_status r_this_storage_bytes) fun w_13 => (w_13.1, w_12.1, w_12.2, w_4.2.1, w_4.2.2, w_13.2.1, w_13.2.2))) else (q_let (f_X1_add w_7.2.1 w_7.2.2 w_4.2.1 w_4.2.2) fun w_10 => (q_let (f_X3_putPacked o_this w_10.1 w_10.2 o_this_status r_this_storage_bytes) fun w_11 => (w_11.1, w_10.1, w_10.2, w_4.2.1, w_4.2.2, w_11.2.1, w_11.2.2)))) else (7, w_7.2.1, w_7.2.2, w_4.2.1, w_4.2.2, o_this_status, r_this_storage_bytes)))) else (7, o_this_first, r_this_first_digits, w_4.2.1, w_4.2.2, o_this_status, r_this_storage_bytes))) else ((f_X3_faultOfPair o_this (f_X3_storeFault o_this_status r_this_storage_keys o_this.2.2.2.2.2.2.2.2.1 (o_this.2.2.2.2.2.2.1 + (1 : Int32)) 1) (o_this.2.2.2.2.2.2.2.1 + (1 : Int32))), o_this_first, r_this_first_digits, o_this_second, r_this_second_digits, o_this_status, r_this_storage_bytes))
set_option linter.all false in
set_option maxHeartbeats 4000000 in
set_option maxRecDepth 100000 in
theorem c_X3_calculatePacked (l : Launch) (D : va_G) (a_this a_this_first a_this_first_digits a_this_second a_this_second_digits a_this_status a_this_storage a_this_storage_bytes a_this_storage_keys a_this_channel a_this_registers : Nat) (k_this_first_digits k_this_second_digits k_this_storage_bytes k_this_storage_keys : ClassId) (o_this : Bool × Int32 × Int32 × Int32 × Int32 × Int32 × Int32 × Int32 × Int32 × Int32) (o_this_first : Bool) (r_this_first_digits : Nat → Int32) (o_this_second : Bool) (r_this_second_digits : Nat → Int32) (o_this_status : Int32 × Int32 × Int32 × Int32) (r_this_storage_bytes : Nat → Int32) (r_this_storage_keys : Nat → Int32) : CtI l yX3_calculatePacked cX3_calculatePacked 2 (some .int) { frames := 3, cells := 0, slots := 0, locals := 72 } D [.ref a_this] [(a_this, oX3 a_this_storage a_this_status a_this_channel a_this_registers a_this_first a_this_second o_this), (a_this_first, oX1 a_this_first_digits o_this_first), (a_this_first_digits, .inl (k_this_first_digits, 32, .inl r_this_first_digits)), (a_this_second, oX1 a_this_second_digits o_this_second), (a_this_second_digits, .inl (k_this_second_digits, 32, .inl r_this_second_digits)), (a_this_status, oX5 o_this_status), (a_this_storage, oX6 a_this_storage_bytes a_this_storage_keys), (a_this_storage_bytes, .inl (k_this_storage_bytes, 2048, .inl r_this_storage_bytes)), (a_this_storage_keys, .inl (k_this_storage_keys, 8, .inl r_this_storage_keys))] [(k_this_first_digits, .int), (k_this_second_digits, .int), (k_this_storage_bytes, .byte), (k_this_storage_keys, .int)] (fun (r : Int32) (u : Int32 × Bool × (Nat → Int32) × Bool × (Nat → Int32) × (Int32 × Int32 × Int32 × Int32) × (Nat → Int32)) => f_X3_calculatePacked o_this o_this_first r_this_first_digits o_this_second r_this_second_digits o_this_status r_this_storage_bytes r_this_storage_keys = u ∧ r = u.1) (fun u => [(a_this, oX3 a_this_storage a_this_status a_this_channel a_this_registers a_this_first a_this_second o_this), (a_this_first, oX1 a_this_first_digits u.2.1), (a_this_first_digits, .inl (k_this_first_digits, 32, .inl u.2.2.1)), (a_this_second, oX1 a_this_second_digits u.2.2.2.1), (a_this_second_digits, .inl (k_this_second_digits, 32, .inl u.2.2.2.2.1)), (a_this_status, oX5 u.2.2.2.2.2.1), (a_this_storage, oX6 a_this_storage_bytes a_this_storage_keys), (a_this_storage_bytes, .inl (k_this_storage_bytes, 2048, .inl u.2.2.2.2.2.2)), (a_this_storage_keys, .inl (k_this_storage_keys, 8, .inl r_this_storage_keys))]) := by
  refine CtI.of (by decide) (Nat.le_of_ble_eq_true rfl) ?_
  intro p e s m below meth c A ls Q hE hP hD hS hl hQ
  obtain ⟨hx, hb, hml, hown, ht, hN, hK, hA⟩ := hE
  have hown : s.vm.findClass RX3 = some m.cls := hown
  have hl : lv_has ls 2 [(0, .ref a_this)] := hl
  obtain ⟨F, hF⟩ : ∃ F, f_X3_calculatePacked o_this o_this_first r_this_first_digits o_this_second r_this_second_digits o_this_status r_this_storage_bytes r_this_storage_keys = F := ⟨_, rfl⟩
  rw [hF] at hQ
  unfold f_X3_calculatePacked at hF
  refine lv_aload_n hx hb dX3_calculatePacked_0 rfl (lv_at hl 0 rfl) ?_
  refine lv_aload_n hx hb dX3_calculatePacked_1 rfl (lv_at hl 0 rfl) ?_
  refine lv_aload_n hx hb dX3_calculatePacked_2 rfl (lv_at hl 0 rfl) ?_
  refine gf_X3_152 (v := .int o_this.2.2.2.2.2.2.2.2.1) hx hb hown ht hK hP 0 rfl rfl dX3_calculatePacked_3 ?_
  refine lv_aload_n hx hb dX3_calculatePacked_6 rfl (lv_at hl 0 rfl) ?_
  refine gf_X3_142 (v := .int o_this.2.2.2.2.2.2.1) hx hb hown ht hK hP 0 rfl rfl dX3_calculatePacked_7 ?_
  refine lv_iconst (v := 1) hx hb dX3_calculatePacked_10 (by decide) ?_
  refine lv_iadd hx hb dX3_calculatePacked_11 ?_
  refine lv_iconst (v := 1) hx hb dX3_calculatePacked_12 (by decide) ?_
  refine q_Vi (rest := [.ref a_this]) (c_X3_storeFault l D a_this a_this_status a_this_storage a_this_storage_keys a_this_channel a_this_registers a_this_first a_this_second a_this_storage_bytes k_this_storage_keys o_this o_this_status r_this_storage_keys o_this.2.2.2.2.2.2.2.2.1 (o_this.2.2.2.2.2.2.1 + (1 : Int32)) 1) cv_X3_storeFault hx hb hml hown ht hN hK hA hP hD hS hl.1 (km_X3_264) ⟨Nat.le_of_ble_eq_true rfl, Nat.le_of_ble_eq_true rfl⟩ rfl rfl [0, 5, 6, 8] (by decide) rfl [3] rfl (fun _ => rfl) (ci := 3) rfl rfl rfl rfl rfl (Nat.le_of_ble_eq_true rfl) dX3_calculatePacked_13 ⟨Nat.zero_le _, Nat.zero_le _⟩ (fun r u H locs hw hP hD hS => ?_)
  obtain ⟨rfl, rfl⟩ := hw
  have hP : va_P D vwCl [(a_this, oX3 a_this_storage a_this_status a_this_channel a_this_registers a_this_first a_this_second o_this), (a_this_first, oX1 a_this_first_digits o_this_first), (a_this_first_digits, .inl (k_this_first_digits, 32, .inl r_this_first_digits)), (a_this_second, oX1 a_this_second_digits o_this_second), (a_this_second_digits, .inl (k_this_second_digits, 32, .inl r_this_second_digits)), (a_this_status, oX5 o_this_status), (a_this_storage, oX6 a_this_storage_bytes a_this_storage_keys), (a_this_storage_bytes, .inl (k_this_storage_bytes, 2048, .inl r_this_storage_bytes)), (a_this_storage_keys, .inl (k_this_storage_keys, 8, .inl r_this_storage_keys))] H := hP
  have hD : va_D A [(a_this, oX3 a_this_storage a_this_status a_this_channel a_this_registers a_this_first a_this_second o_this), (a_this_first, oX1 a_this_first_digits o_this_first), (a_this_first_digits, .inl (k_this_first_digits, 32, .inl r_this_first_digits)), (a_this_second, oX1 a_this_second_digits o_this_second), (a_this_second_digits, .inl (k_this_second_digits, 32, .inl r_this_second_digits)), (a_this_status, oX5 o_this_status), (a_this_storage, oX6 a_this_storage_bytes a_this_storage_keys), (a_this_storage_bytes, .inl (k_this_storage_bytes, 2048, .inl r_this_storage_bytes)), (a_this_storage_keys, .inl (k_this_storage_keys, 8, .inl r_this_storage_keys))] := hD
  refine lv_aload_n hx hb dX3_calculatePacked_16 rfl (lv_at hl 0 rfl) ?_
  refine gf_X3_145 (v := .int o_this.2.2.2.2.2.2.2.1) hx hb hown ht hK hP 0 rfl rfl dX3_calculatePacked_17 ?_
  refine lv_iconst (v := 1) hx hb dX3_calculatePacked_20 (by decide) ?_
  refine lv_iadd hx hb dX3_calculatePacked_21 ?_
  refine q_Vi (rest := []) (c_X3_faultOfPair l D a_this a_this_storage a_this_status a_this_channel a_this_registers a_this_first a_this_second o_this (f_X3_storeFault o_this_status r_this_storage_keys o_this.2.2.2.2.2.2.2.2.1 (o_this.2.2.2.2.2.2.1 + (1 : Int32)) 1) (o_this.2.2.2.2.2.2.2.1 + (1 : Int32))) cv_X3_faultOfPair hx hb hml hown ht hN hK hA hP hD hS hl.1 (km_X3_341) ⟨Nat.le_of_ble_eq_true rfl, Nat.le_of_ble_eq_true rfl⟩ rfl rfl [0] (by decide) rfl [] rfl (fun _ => rfl) (ci := 3) rfl rfl rfl rfl rfl (Nat.le_of_ble_eq_true rfl) dX3_calculatePacked_22 ⟨Nat.zero_le _, Nat.zero_le _⟩ (fun r u H locs hw hP hD hS => ?_)
  obtain ⟨rfl, rfl⟩ := hw
  have hP : va_P D vwCl [(a_this, oX3 a_this_storage a_this_status a_this_channel a_this_registers a_this_first a_this_second o_this), (a_this_first, oX1 a_this_first_digits o_this_first), (a_this_first_digits, .inl (k_this_first_digits, 32, .inl r_this_first_digits)), (a_this_second, oX1 a_this_second_digits o_this_second), (a_this_second_digits, .inl (k_this_second_digits, 32, .inl r_this_second_digits)), (a_this_status, oX5 o_this_status), (a_this_storage, oX6 a_this_storage_bytes a_this_storage_keys), (a_this_storage_bytes, .inl (k_this_storage_bytes, 2048, .inl r_this_storage_bytes)), (a_this_storage_keys, .inl (k_this_storage_keys, 8, .inl r_this_storage_keys))] H := hP
  have hD : va_D A [(a_this, oX3 a_this_storage a_this_status a_this_channel a_this_registers a_this_first a_this_second o_this), (a_this_first, oX1 a_this_first_digits o_this_first), (a_this_first_digits, .inl (k_this_first_digits, 32, .inl r_this_first_digits)), (a_this_second, oX1 a_this_second_digits o_this_second), (a_this_second_digits, .inl (k_this_second_digits, 32, .inl r_this_second_digits)), (a_this_status, oX5 o_this_status), (a_this_storage, oX6 a_this_storage_bytes a_this_storage_keys), (a_this_storage_bytes, .inl (k_this_storage_bytes, 2048, .inl r_this_storage_bytes)), (a_this_storage_keys, .inl (k_this_storage_keys, 8, .inl r_this_storage_keys))] := hD
  refine lv_istore_n (lv' := [(1, .int (f_X3_faultOfPair o_this (f_X3_storeFault o_this_status r_this_storage_keys o_this.2.2.2.2.2.2.2.2.1 (o_this.2.2.2.2.2.2.1 + (1 : Int32)) 1) (o_this.2.2.2.2.2.2.2.1 + (1 : Int32)))), (0, .ref a_this)]) hx hb dX3_calculatePacked_25 rfl hl (by decide) rfl (fun ls hl => ?_)
  refine lv_iload_n hx hb dX3_calculatePacked_26 rfl (lv_at hl 0 rfl) ?_
  refine lv_if_eq (tgt := 32) hx hb dX3_calculatePacked_27 (by decide) (fun c_3 => ?_) (fun c_3 => ?_)
  · skip
    rw [if_pos c_3] at hF
    refine lv_aload_n hx hb dX3_calculatePacked_32 rfl (lv_at hl 1 rfl) ?_
    refine gf_X3_43 (v := .ref a_this_second) hx hb hown ht hK hP 0 rfl rfl dX3_calculatePacked_33 ?_
    refine lv_aload_n hx hb dX3_calculatePacked_36 rfl (lv_at hl 1 rfl) ?_
    refine gf_X3_12 (v := .ref a_this_storage) hx hb hown ht hK hP 0 rfl rfl dX3_calculatePacked_37 ?_
    refine lv_aload_n hx hb dX3_calculatePacked_40 rfl (lv_at hl 1 rfl) ?_
    refine gf_X3_155 (v := .int o_this.2.2.2.2.2.2.2.2.2) hx hb hown ht hK hP 0 rfl rfl dX3_calculatePacked_41 ?_
    refine lv_aload_n hx hb dX3_calculatePacked_44 rfl (lv_at hl 1 rfl) ?_
    refine gf_X3_145 (v := .int o_this.2.2.2.2.2.2.2.1) hx hb hown ht hK hP 0 rfl rfl dX3_calculatePacked_45 ?_
    refine lv_iconst (v := 1) hx hb dX3_calculatePacked_48 (by decide) ?_
    refine lv_iadd hx hb dX3_calculatePacked_49 ?_
    refine q_Vi (rest := []) (c_X1_takeFrom l D a_this_second a_this_second_digits a_this_storage a_this_storage_bytes a_this_storage_keys k_this_second_digits k_this_storage_bytes o_this_second r_this_second_digits r_this_storage_bytes o_this.2.2.2.2.2.2.2.2.2 (o_this.2.2.2.2.2.2.2.1 + (1 : Int32))) cv_X1_takeFrom hx hb hml hown ht hN hK hA hP hD hS hl.1 (km_X3_279) ⟨Nat.le_of_ble_eq_true rfl, Nat.le_of_ble_eq_true rfl⟩ rfl rfl [3, 4, 6, 7] (by decide) rfl [1, 2] rfl (fun _ => rfl) (ci := 1) rfl rfl rfl rfl rfl (Nat.le_of_ble_eq_true rfl) dX3_calculatePacked_50 ⟨Nat.zero_le _, Nat.zero_le _⟩ (fun r w_4 H locs hw hP hD hS => ?_)
    obtain ⟨hw, hr⟩ := hw
    subst hr
    have hP : va_P D vwCl [(a_this, oX3 a_this_storage a_this_status a_this_channel a_this_registers a_this_first a_this_second o_this), (a_this_first, oX1 a_this_first_digits o_this_first), (a_this_first_digits, .inl (k_this_first_digits, 32, .inl r_this_first_digits)), (a_this_second, oX1 a_this_second_digits w_4.2.1), (a_this_second_digits, .inl (k_this_second_digits, 32, .inl w_4.2.2)), (a_this_status, oX5 o_this_status), (a_this_storage, oX6 a_this_storage_bytes a_this_storage_keys), (a_this_storage_bytes, .inl (k_this_storage_bytes, 2048, .inl r_this_storage_bytes)), (a_this_storage_keys, .inl (k_this_storage_keys, 8, .inl r_this_storage_keys))] H := hP
    have hD : va_D A [(a_this, oX3 a_this_storage a_this_status a_this_channel a_this_registers a_this_first a_this_second o_this), (a_this_first, oX1 a_this_first_digits o_this_first), (a_this_first_digits, .inl (k_this_first_digits, 32, .inl r_this_first_digits)), (a_this_second, oX1 a_this_second_digits w_4.2.1), (a_this_second_digits, .inl (k_this_second_digits, 32, .inl w_4.2.2)), (a_this_status, oX5 o_this_status), (a_this_storage, oX6 a_this_storage_bytes a_this_storage_keys), (a_this_storage_bytes, .inl (k_this_storage_bytes, 2048, .inl r_this_storage_bytes)), (a_this_storage_keys, .inl (k_this_storage_keys, 8, .inl r_this_storage_keys))] := hD
    rw [q_let_of hw] at hF
    refine lv_if_ne (tgt := 59) hx hb dX3_calculatePacked_53 (by decide) (fun c_5 => ?_) (fun c_5 => ?_)
    · have c_5 := (bI_ne0 _).mp c_5
      rw [if_pos c_5] at hF
      refine lv_aload_n hx hb dX3_calculatePacked_59 rfl (lv_at hl 1 rfl) ?_
      refine gf_X3_61 (v := .int o_this.2.2.2.2.1) hx hb hown ht hK hP 0 rfl rfl dX3_calculatePacked_60 ?_
      refine lv_sipush (v := 248) hx hb dX3_calculatePacked_63 (by decide) ?_
      refine lv_icmp_ne (tgt := 80) hx hb dX3_calculatePacked_66 (by decide) (fun c_6 => ?_) (fun c_6 => ?_)
      · skip
        rw [if_neg c_6] at hF
        refine lv_aload_n hx hb dX3_calculatePacked_80 rfl (lv_at hl 1 rfl) ?_
        refine gf_X3_39 (v := .ref a_this_first) hx hb hown ht hK hP 0 rfl rfl dX3_calculatePacked_81 ?_
        refine lv_aload_n hx hb dX3_calculatePacked_84 rfl (lv_at hl 1 rfl) ?_
        refine gf_X3_12 (v := .ref a_this_storage) hx hb hown ht hK hP 0 rfl rfl dX3_calculatePacked_85 ?_
        refine lv_aload_n hx hb dX3_calculatePacked_88 rfl (lv_at hl 1 rfl) ?_
        refine gf_X3_152 (v := .int o_this.2.2.2.2.2.2.2.2.1) hx hb hown ht hK hP 0 rfl rfl dX3_calculatePacked_89 ?_
        refine lv_aload_n hx hb dX3_calculatePacked_92 rfl (lv_at hl 1 rfl) ?_
        refine gf_X3_142 (v := .int o_this.2.2.2.2.2.2.1) hx hb hown ht hK hP 0 rfl rfl dX3_calculatePacked_93 ?_
        refine lv_iconst (v := 1) hx hb dX3_calculatePacked_96 (by decide) ?_
        refine lv_iadd hx hb dX3_calculatePacked_97 ?_
        refine q_Vi (rest := []) (c_X1_takeFrom l D a_this_first a_this_first_digits a_this_storage a_this_storage_bytes a_this_storage_keys k_this_first_digits k_this_storage_bytes o_this_first r_this_first_digits r_this_storage_bytes o_this.2.2.2.2.2.2.2.2.1 (o_this.2.2.2.2.2.2.1 + (1 : Int32))) cv_X1_takeFrom hx hb hml hown ht hN hK hA hP hD hS hl.1 (km_X3_279) ⟨Nat.le_of_ble_eq_true rfl, Nat.le_of_ble_eq_true rfl⟩ rfl rfl [1, 2, 6, 7] (by decide) rfl [0, 2] rfl (fun _ => rfl) (ci := 1) rfl rfl rfl rfl rfl (Nat.le_of_ble_eq_true rfl) dX3_calculatePacked_98 ⟨Nat.zero_le _, Nat.zero_le _⟩ (fun r w_7 H locs hw hP hD hS => ?_)
        obtain ⟨hw, hr⟩ := hw
        subst hr
        have hP : va_P D vwCl [(a_this, oX3 a_this_storage a_this_status a_this_channel a_this_registers a_this_first a_this_second o_this), (a_this_first, oX1 a_this_first_digits w_7.2.1), (a_this_first_digits, .inl (k_this_first_digits, 32, .inl w_7.2.2)), (a_this_second, oX1 a_this_second_digits w_4.2.1), (a_this_second_digits, .inl (k_this_second_digits, 32, .inl w_4.2.2)), (a_this_status, oX5 o_this_status), (a_this_storage, oX6 a_this_storage_bytes a_this_storage_keys), (a_this_storage_bytes, .inl (k_this_storage_bytes, 2048, .inl r_this_storage_bytes)), (a_this_storage_keys, .inl (k_this_storage_keys, 8, .inl r_this_storage_keys))] H := hP
        have hD : va_D A [(a_this, oX3 a_this_storage a_this_status a_this_channel a_this_registers a_this_first a_this_second o_this), (a_this_first, oX1 a_this_first_digits w_7.2.1), (a_this_first_digits, .inl (k_this_first_digits, 32, .inl w_7.2.2)), (a_this_second, oX1 a_this_second_digits w_4.2.1), (a_this_second_digits, .inl (k_this_second_digits, 32, .inl w_4.2.2)), (a_this_status, oX5 o_this_status), (a_this_storage, oX6 a_this_storage_bytes a_this_storage_keys), (a_this_storage_bytes, .inl (k_this_storage_bytes, 2048, .inl r_this_storage_bytes)), (a_this_storage_keys, .inl (k_this_storage_keys, 8, .inl r_this_storage_keys))] := hD
        rw [q_let_of hw] at hF
        refine lv_if_ne (tgt := 107) hx hb dX3_calculatePacked_101 (by decide) (fun c_8 => ?_) (fun c_8 => ?_)
        · have c_8 := (bI_ne0 _).mp c_8
          rw [if_pos c_8] at hF
          refine lv_aload_n hx hb dX3_calculatePacked_107 rfl (lv_at hl 1 rfl) ?_
          refine gf_X3_61 (v := .int o_this.2.2.2.2.1) hx hb hown ht hK hP 0 rfl rfl dX3_calculatePacked_108 ?_
          refine lv_sipush (v := 251) hx hb dX3_calculatePacked_111 (by decide) ?_
          refine lv_icmp_ne (tgt := 131) hx hb dX3_calculatePacked_114 (by decide) (fun c_9 => ?_) (fun c_9 => ?_)
          · skip
            rw [if_neg c_9] at hF
            refine lv_aload_n hx hb dX3_calculatePacked_131 rfl (lv_at hl 1 rfl) ?_
            refine gf_X3_39 (v := .ref a_this_first) hx hb hown ht hK hP 0 rfl rfl dX3_calculatePacked_132 ?_
            refine lv_aload_n hx hb dX3_calculatePacked_135 rfl (lv_at hl 1 rfl) ?_
            refine gf_X3_43 (v := .ref a_this_second) hx hb hown ht hK hP 0 rfl rfl dX3_calculatePacked_136 ?_
            refine q_Vv (rest := []) (c_X1_add l D a_this_first a_this_first_digits a_this_second a_this_second_digits k_this_first_digits k_this_second_digits w_7.2.1 w_7.2.2 w_4.2.1 w_4.2.2) cv_X1_add hx hb hml hown ht hN hK hA hP hD hS hl.1 (km_X3_348) ⟨Nat.le_of_ble_eq_true rfl, Nat.le_of_ble_eq_true rfl⟩ rfl rfl [1, 2, 3, 4] (by decide) rfl [0, 1] rfl (fun _ => rfl) (ci := 1) rfl rfl rfl rfl rfl (Nat.le_of_ble_eq_true rfl) dX3_calculatePacked_139 ⟨Nat.zero_le _, Nat.zero_le _⟩ (fun w_10 H locs hw hP hD hS => ?_)
            have hP : va_P D vwCl [(a_this, oX3 a_this_storage a_this_status a_this_channel a_this_registers a_this_first a_this_second o_this), (a_this_first, oX1 a_this_first_digits w_10.1), (a_this_first_digits, .inl (k_this_first_digits, 32, .inl w_10.2)), (a_this_second, oX1 a_this_second_digits w_4.2.1), (a_this_second_digits, .inl (k_this_second_digits, 32, .inl w_4.2.2)), (a_this_status, oX5 o_this_status), (a_this_storage, oX6 a_this_storage_bytes a_this_storage_keys), (a_this_storage_bytes, .inl (k_this_storage_bytes, 2048, .inl r_this_storage_bytes)), (a_this_storage_keys, .inl (k_this_storage_keys, 8, .inl r_this_storage_keys))] H := hP
            have hD : va_D A [(a_this, oX3 a_this_storage a_this_status a_this_channel a_this_registers a_this_first a_this_second o_this), (a_this_first, oX1 a_this_first_digits w_10.1), (a_this_first_digits, .inl (k_this_first_digits, 32, .inl w_10.2)), (a_this_second, oX1 a_this_second_digits w_4.2.1), (a_this_second_digits, .inl (k_this_second_digits, 32, .inl w_4.2.2)), (a_this_status, oX5 o_this_status), (a_this_storage, oX6 a_this_storage_bytes a_this_storage_keys), (a_this_storage_bytes, .inl (k_this_storage_bytes, 2048, .inl r_this_storage_bytes)), (a_this_storage_keys, .inl (k_this_storage_keys, 8, .inl r_this_storage_keys))] := hD
            rw [q_let_of hw] at hF
            refine lv_aload_n hx hb dX3_calculatePacked_142 rfl (lv_at hl 1 rfl) ?_
            refine q_Vi (rest := []) (c_X3_putPacked l D a_this a_this_first a_this_first_digits a_this_status a_this_storage a_this_storage_bytes a_this_channel a_this_registers a_this_second a_this_storage_keys k_this_first_digits k_this_storage_bytes o_this w_10.1 w_10.2 o_this_status r_this_storage_bytes) cv_X3_putPacked hx hb hml hown ht hN hK hA hP hD hS hl.1 (km_X3_351) ⟨Nat.le_of_ble_eq_true rfl, Nat.le_of_ble_eq_true rfl⟩ rfl rfl [0, 1, 2, 5, 6, 7] (by decide) rfl [0, 2] rfl (fun _ => rfl) (ci := 3) rfl rfl rfl rfl rfl (Nat.le_of_ble_eq_true rfl) dX3_calculatePacked_143 ⟨Nat.zero_le _, Nat.zero_le _⟩ (fun r w_11 H locs hw hP hD hS => ?_)
            obtain ⟨hw, hr⟩ := hw
            subst hr
            have hP : va_P D vwCl [(a_this, oX3 a_this_storage a_this_status a_this_channel a_this_registers a_this_first a_this_second o_this), (a_this_first, oX1 a_this_first_digits w_10.1), (a_this_first_digits, .inl (k_this_first_digits, 32, .inl w_10.2)), (a_this_second, oX1 a_this_second_digits w_4.2.1), (a_this_second_digits, .inl (k_this_second_digits, 32, .inl w_4.2.2)), (a_this_status, oX5 w_11.2.1), (a_this_storage, oX6 a_this_storage_bytes a_this_storage_keys), (a_this_storage_bytes, .inl (k_this_storage_bytes, 2048, .inl w_11.2.2)), (a_this_storage_keys, .inl (k_this_storage_keys, 8, .inl r_this_storage_keys))] H := hP
            have hD : va_D A [(a_this, oX3 a_this_storage a_this_status a_this_channel a_this_registers a_this_first a_this_second o_this), (a_this_first, oX1 a_this_first_digits w_10.1), (a_this_first_digits, .inl (k_this_first_digits, 32, .inl w_10.2)), (a_this_second, oX1 a_this_second_digits w_4.2.1), (a_this_second_digits, .inl (k_this_second_digits, 32, .inl w_4.2.2)), (a_this_status, oX5 w_11.2.1), (a_this_storage, oX6 a_this_storage_bytes a_this_storage_keys), (a_this_storage_bytes, .inl (k_this_storage_bytes, 2048, .inl w_11.2.2)), (a_this_storage_keys, .inl (k_this_storage_keys, 8, .inl r_this_storage_keys))] := hD
            rw [q_let_of hw] at hF
            exact hQ w_11.1 (w_11.1, w_10.1, w_10.2, w_4.2.1, w_4.2.2, w_11.2.1, w_11.2.2) _ _ _ _ dX3_calculatePacked_146 ⟨hF.symm, rfl⟩ hP hD hS
          · skip
            rw [if_pos c_9] at hF
            refine lv_aload_n hx hb dX3_calculatePacked_117 rfl (lv_at hl 1 rfl) ?_
            refine gf_X3_39 (v := .ref a_this_first) hx hb hown ht hK hP 0 rfl rfl dX3_calculatePacked_118 ?_
            refine lv_aload_n hx hb dX3_calculatePacked_121 rfl (lv_at hl 1 rfl) ?_
            refine gf_X3_43 (v := .ref a_this_second) hx hb hown ht hK hP 0 rfl rfl dX3_calculatePacked_122 ?_
            refine q_Vv (rest := []) (c_X1_subtract l D a_this_first a_this_first_digits a_this_second a_this_second_digits k_this_first_digits k_this_second_digits w_7.2.1 w_7.2.2 w_4.2.1 w_4.2.2) cv_X1_subtract hx hb hml hown ht hN hK hA hP hD hS hl.1 (km_X3_344) ⟨Nat.le_of_ble_eq_true rfl, Nat.le_of_ble_eq_true rfl⟩ rfl rfl [1, 2, 3, 4] (by decide) rfl [0, 1] rfl (fun _ => rfl) (ci := 1) rfl rfl rfl rfl rfl (Nat.le_of_ble_eq_true rfl) dX3_calculatePacked_125 ⟨Nat.zero_le _, Nat.zero_le _⟩ (fun w_12 H locs hw hP hD hS => ?_)
            have hP : va_P D vwCl [(a_this, oX3 a_this_storage a_this_status a_this_channel a_this_registers a_this_first a_this_second o_this), (a_this_first, oX1 a_this_first_digits w_12.1), (a_this_first_digits, .inl (k_this_first_digits, 32, .inl w_12.2)), (a_this_second, oX1 a_this_second_digits w_4.2.1), (a_this_second_digits, .inl (k_this_second_digits, 32, .inl w_4.2.2)), (a_this_status, oX5 o_this_status), (a_this_storage, oX6 a_this_storage_bytes a_this_storage_keys), (a_this_storage_bytes, .inl (k_this_storage_bytes, 2048, .inl r_this_storage_bytes)), (a_this_storage_keys, .inl (k_this_storage_keys, 8, .inl r_this_storage_keys))] H := hP
            have hD : va_D A [(a_this, oX3 a_this_storage a_this_status a_this_channel a_this_registers a_this_first a_this_second o_this), (a_this_first, oX1 a_this_first_digits w_12.1), (a_this_first_digits, .inl (k_this_first_digits, 32, .inl w_12.2)), (a_this_second, oX1 a_this_second_digits w_4.2.1), (a_this_second_digits, .inl (k_this_second_digits, 32, .inl w_4.2.2)), (a_this_status, oX5 o_this_status), (a_this_storage, oX6 a_this_storage_bytes a_this_storage_keys), (a_this_storage_bytes, .inl (k_this_storage_bytes, 2048, .inl r_this_storage_bytes)), (a_this_storage_keys, .inl (k_this_storage_keys, 8, .inl r_this_storage_keys))] := hD
            rw [q_let_of hw] at hF
            refine lv_goto (tgt := 142) hx hb dX3_calculatePacked_128 (by decide) ?_
            refine lv_aload_n hx hb dX3_calculatePacked_142 rfl (lv_at hl 1 rfl) ?_
            refine q_Vi (rest := []) (c_X3_putPacked l D a_this a_this_first a_this_first_digits a_this_status a_this_storage a_this_storage_bytes a_this_channel a_this_registers a_this_second a_this_storage_keys k_this_first_digits k_this_storage_bytes o_this w_12.1 w_12.2 o_this_status r_this_storage_bytes) cv_X3_putPacked hx hb hml hown ht hN hK hA hP hD hS hl.1 (km_X3_351) ⟨Nat.le_of_ble_eq_true rfl, Nat.le_of_ble_eq_true rfl⟩ rfl rfl [0, 1, 2, 5, 6, 7] (by decide) rfl [0, 2] rfl (fun _ => rfl) (ci := 3) rfl rfl rfl rfl rfl (Nat.le_of_ble_eq_true rfl) dX3_calculatePacked_143 ⟨Nat.zero_le _, Nat.zero_le _⟩ (fun r w_13 H locs hw hP hD hS => ?_)
            obtain ⟨hw, hr⟩ := hw
            subst hr
            have hP : va_P D vwCl [(a_this, oX3 a_this_storage a_this_status a_this_channel a_this_registers a_this_first a_this_second o_this), (a_this_first, oX1 a_this_first_digits w_12.1), (a_this_first_digits, .inl (k_this_first_digits, 32, .inl w_12.2)), (a_this_second, oX1 a_this_second_digits w_4.2.1), (a_this_second_digits, .inl (k_this_second_digits, 32, .inl w_4.2.2)), (a_this_status, oX5 w_13.2.1), (a_this_storage, oX6 a_this_storage_bytes a_this_storage_keys), (a_this_storage_bytes, .inl (k_this_storage_bytes, 2048, .inl w_13.2.2)), (a_this_storage_keys, .inl (k_this_storage_keys, 8, .inl r_this_storage_keys))] H := hP
            have hD : va_D A [(a_this, oX3 a_this_storage a_this_status a_this_channel a_this_registers a_this_first a_this_second o_this), (a_this_first, oX1 a_this_first_digits w_12.1), (a_this_first_digits, .inl (k_this_first_digits, 32, .inl w_12.2)), (a_this_second, oX1 a_this_second_digits w_4.2.1), (a_this_second_digits, .inl (k_this_second_digits, 32, .inl w_4.2.2)), (a_this_status, oX5 w_13.2.1), (a_this_storage, oX6 a_this_storage_bytes a_this_storage_keys), (a_this_storage_bytes, .inl (k_this_storage_bytes, 2048, .inl w_13.2.2)), (a_this_storage_keys, .inl (k_this_storage_keys, 8, .inl r_this_storage_keys))] := hD
            rw [q_let_of hw] at hF
            exact hQ w_13.1 (w_13.1, w_12.1, w_12.2, w_4.2.1, w_4.2.2, w_13.2.1, w_13.2.2) _ _ _ _ dX3_calculatePacked_146 ⟨hF.symm, rfl⟩ hP hD hS
        · have c_8 : ¬ w_7.1 = true := by rw [(bI_eq0 _).mp c_8]; decide
          rw [if_neg c_8] at hF
          refine lv_bipush (v := 7) hx hb dX3_calculatePacked_104 (by decide) ?_
          exact hQ 7 (7, w_7.2.1, w_7.2.2, w_4.2.1, w_4.2.2, o_this_status, r_this_storage_bytes) _ _ _ _ dX3_calculatePacked_106 ⟨hF.symm, rfl⟩ hP hD hS
      · skip
        rw [if_pos c_6] at hF
        refine lv_aload_n hx hb dX3_calculatePacked_69 rfl (lv_at hl 1 rfl) ?_
        refine gf_X3_39 (v := .ref a_this_first) hx hb hown ht hK hP 0 rfl rfl dX3_calculatePacked_70 ?_
        refine lv_iconst (v := 0) hx hb dX3_calculatePacked_73 (by decide) ?_
        refine q_Vv (rest := []) (c_X1_becomeInt l D a_this_first a_this_first_digits k_this_first_digits o_this_first r_this_first_digits 0) cv_X1_becomeInt hx hb hml hown ht hN hK hA hP hD hS hl.1 (km_X3_273) ⟨Nat.le_of_ble_eq_true rfl, Nat.le_of_ble_eq_true rfl⟩ rfl rfl [1, 2] (by decide) rfl [0] rfl (fun _ => rfl) (ci := 1) rfl rfl rfl rfl rfl (Nat.le_of_ble_eq_true rfl) dX3_calculatePacked_74 ⟨Nat.zero_le _, Nat.zero_le _⟩ (fun w_14 H locs hw hP hD hS => ?_)
        have hP : va_P D vwCl [(a_this, oX3 a_this_storage a_this_status a_this_channel a_this_registers a_this_first a_this_second o_this), (a_this_first, oX1 a_this_first_digits w_14.1), (a_this_first_digits, .inl (k_this_first_digits, 32, .inl w_14.2)), (a_this_second, oX1 a_this_second_digits w_4.2.1), (a_this_second_digits, .inl (k_this_second_digits, 32, .inl w_4.2.2)), (a_this_status, oX5 o_this_status), (a_this_storage, oX6 a_this_storage_bytes a_this_storage_keys), (a_this_storage_bytes, .inl (k_this_storage_bytes, 2048, .inl r_this_storage_bytes)), (a_this_storage_keys, .inl (k_this_storage_keys, 8, .inl r_this_storage_keys))] H := hP
        have hD : va_D A [(a_this, oX3 a_this_storage a_this_status a_this_channel a_this_registers a_this_first a_this_second o_this), (a_this_first, oX1 a_this_first_digits w_14.1), (a_this_first_digits, .inl (k_this_first_digits, 32, .inl w_14.2)), (a_this_second, oX1 a_this_second_digits w_4.2.1), (a_this_second_digits, .inl (k_this_second_digits, 32, .inl w_4.2.2)), (a_this_status, oX5 o_this_status), (a_this_storage, oX6 a_this_storage_bytes a_this_storage_keys), (a_this_storage_bytes, .inl (k_this_storage_bytes, 2048, .inl r_this_storage_bytes)), (a_this_storage_keys, .inl (k_this_storage_keys, 8, .inl r_this_storage_keys))] := hD
        rw [q_let_of hw] at hF
        refine lv_goto (tgt := 107) hx hb dX3_calculatePacked_77 (by decide) ?_
        refine lv_aload_n hx hb dX3_calculatePacked_107 rfl (lv_at hl 1 rfl) ?_
        refine gf_X3_61 (v := .int o_this.2.2.2.2.1) hx hb hown ht hK hP 0 rfl rfl dX3_calculatePacked_108 ?_
        refine lv_sipush (v := 251) hx hb dX3_calculatePacked_111 (by decide) ?_
        refine lv_icmp_ne (tgt := 131) hx hb dX3_calculatePacked_114 (by decide) (fun c_15 => ?_) (fun c_15 => ?_)
        · skip
          rw [if_neg c_15] at hF
          refine lv_aload_n hx hb dX3_calculatePacked_131 rfl (lv_at hl 1 rfl) ?_
          refine gf_X3_39 (v := .ref a_this_first) hx hb hown ht hK hP 0 rfl rfl dX3_calculatePacked_132 ?_
          refine lv_aload_n hx hb dX3_calculatePacked_135 rfl (lv_at hl 1 rfl) ?_
          refine gf_X3_43 (v := .ref a_this_second) hx hb hown ht hK hP 0 rfl rfl dX3_calculatePacked_136 ?_
          refine q_Vv (rest := []) (c_X1_add l D a_this_first a_this_first_digits a_this_second a_this_second_digits k_this_first_digits k_this_second_digits w_14.1 w_14.2 w_4.2.1 w_4.2.2) cv_X1_add hx hb hml hown ht hN hK hA hP hD hS hl.1 (km_X3_348) ⟨Nat.le_of_ble_eq_true rfl, Nat.le_of_ble_eq_true rfl⟩ rfl rfl [1, 2, 3, 4] (by decide) rfl [0, 1] rfl (fun _ => rfl) (ci := 1) rfl rfl rfl rfl rfl (Nat.le_of_ble_eq_true rfl) dX3_calculatePacked_139 ⟨Nat.zero_le _, Nat.zero_le _⟩ (fun w_16 H locs hw hP hD hS => ?_)
          have hP : va_P D vwCl [(a_this, oX3 a_this_storage a_this_status a_this_channel a_this_registers a_this_first a_this_second o_this), (a_this_first, oX1 a_this_first_digits w_16.1), (a_this_first_digits, .inl (k_this_first_digits, 32, .inl w_16.2)), (a_this_second, oX1 a_this_second_digits w_4.2.1), (a_this_second_digits, .inl (k_this_second_digits, 32, .inl w_4.2.2)), (a_this_status, oX5 o_this_status), (a_this_storage, oX6 a_this_storage_bytes a_this_storage_keys), (a_this_storage_bytes, .inl (k_this_storage_bytes, 2048, .inl r_this_storage_bytes)), (a_this_storage_keys, .inl (k_this_storage_keys, 8, .inl r_this_storage_keys))] H := hP
          have hD : va_D A [(a_this, oX3 a_this_storage a_this_status a_this_channel a_this_registers a_this_first a_this_second o_this), (a_this_first, oX1 a_this_first_digits w_16.1), (a_this_first_digits, .inl (k_this_first_digits, 32, .inl w_16.2)), (a_this_second, oX1 a_this_second_digits w_4.2.1), (a_this_second_digits, .inl (k_this_second_digits, 32, .inl w_4.2.2)), (a_this_status, oX5 o_this_status), (a_this_storage, oX6 a_this_storage_bytes a_this_storage_keys), (a_this_storage_bytes, .inl (k_this_storage_bytes, 2048, .inl r_this_storage_bytes)), (a_this_storage_keys, .inl (k_this_storage_keys, 8, .inl r_this_storage_keys))] := hD
          rw [q_let_of hw] at hF
          refine lv_aload_n hx hb dX3_calculatePacked_142 rfl (lv_at hl 1 rfl) ?_
          refine q_Vi (rest := []) (c_X3_putPacked l D a_this a_this_first a_this_first_digits a_this_status a_this_storage a_this_storage_bytes a_this_channel a_this_registers a_this_second a_this_storage_keys k_this_first_digits k_this_storage_bytes o_this w_16.1 w_16.2 o_this_status r_this_storage_bytes) cv_X3_putPacked hx hb hml hown ht hN hK hA hP hD hS hl.1 (km_X3_351) ⟨Nat.le_of_ble_eq_true rfl, Nat.le_of_ble_eq_true rfl⟩ rfl rfl [0, 1, 2, 5, 6, 7] (by decide) rfl [0, 2] rfl (fun _ => rfl) (ci := 3) rfl rfl rfl rfl rfl (Nat.le_of_ble_eq_true rfl) dX3_calculatePacked_143 ⟨Nat.zero_le _, Nat.zero_le _⟩ (fun r w_17 H locs hw hP hD hS => ?_)
          obtain ⟨hw, hr⟩ := hw
          subst hr
          have hP : va_P D vwCl [(a_this, oX3 a_this_storage a_this_status a_this_channel a_this_registers a_this_first a_this_second o_this), (a_this_first, oX1 a_this_first_digits w_16.1), (a_this_first_digits, .inl (k_this_first_digits, 32, .inl w_16.2)), (a_this_second, oX1 a_this_second_digits w_4.2.1), (a_this_second_digits, .inl (k_this_second_digits, 32, .inl w_4.2.2)), (a_this_status, oX5 w_17.2.1), (a_this_storage, oX6 a_this_storage_bytes a_this_storage_keys), (a_this_storage_bytes, .inl (k_this_storage_bytes, 2048, .inl w_17.2.2)), (a_this_storage_keys, .inl (k_this_storage_keys, 8, .inl r_this_storage_keys))] H := hP
          have hD : va_D A [(a_this, oX3 a_this_storage a_this_status a_this_channel a_this_registers a_this_first a_this_second o_this), (a_this_first, oX1 a_this_first_digits w_16.1), (a_this_first_digits, .inl (k_this_first_digits, 32, .inl w_16.2)), (a_this_second, oX1 a_this_second_digits w_4.2.1), (a_this_second_digits, .inl (k_this_second_digits, 32, .inl w_4.2.2)), (a_this_status, oX5 w_17.2.1), (a_this_storage, oX6 a_this_storage_bytes a_this_storage_keys), (a_this_storage_bytes, .inl (k_this_storage_bytes, 2048, .inl w_17.2.2)), (a_this_storage_keys, .inl (k_this_storage_keys, 8, .inl r_this_storage_keys))] := hD
          rw [q_let_of hw] at hF
          exact hQ w_17.1 (w_17.1, w_16.1, w_16.2, w_4.2.1, w_4.2.2, w_17.2.1, w_17.2.2) _ _ _ _ dX3_calculatePacked_146 ⟨hF.symm, rfl⟩ hP hD hS
        · skip
          rw [if_pos c_15] at hF
          refine lv_aload_n hx hb dX3_calculatePacked_117 rfl (lv_at hl 1 rfl) ?_
          refine gf_X3_39 (v := .ref a_this_first) hx hb hown ht hK hP 0 rfl rfl dX3_calculatePacked_118 ?_
          refine lv_aload_n hx hb dX3_calculatePacked_121 rfl (lv_at hl 1 rfl) ?_
          refine gf_X3_43 (v := .ref a_this_second) hx hb hown ht hK hP 0 rfl rfl dX3_calculatePacked_122 ?_
          refine q_Vv (rest := []) (c_X1_subtract l D a_this_first a_this_first_digits a_this_second a_this_second_digits k_this_first_digits k_this_second_digits w_14.1 w_14.2 w_4.2.1 w_4.2.2) cv_X1_subtract hx hb hml hown ht hN hK hA hP hD hS hl.1 (km_X3_344) ⟨Nat.le_of_ble_eq_true rfl, Nat.le_of_ble_eq_true rfl⟩ rfl rfl [1, 2, 3, 4] (by decide) rfl [0, 1] rfl (fun _ => rfl) (ci := 1) rfl rfl rfl rfl rfl (Nat.le_of_ble_eq_true rfl) dX3_calculatePacked_125 ⟨Nat.zero_le _, Nat.zero_le _⟩ (fun w_18 H locs hw hP hD hS => ?_)
          have hP : va_P D vwCl [(a_this, oX3 a_this_storage a_this_status a_this_channel a_this_registers a_this_first a_this_second o_this), (a_this_first, oX1 a_this_first_digits w_18.1), (a_this_first_digits, .inl (k_this_first_digits, 32, .inl w_18.2)), (a_this_second, oX1 a_this_second_digits w_4.2.1), (a_this_second_digits, .inl (k_this_second_digits, 32, .inl w_4.2.2)), (a_this_status, oX5 o_this_status), (a_this_storage, oX6 a_this_storage_bytes a_this_storage_keys), (a_this_storage_bytes, .inl (k_this_storage_bytes, 2048, .inl r_this_storage_bytes)), (a_this_storage_keys, .inl (k_this_storage_keys, 8, .inl r_this_storage_keys))] H := hP
          have hD : va_D A [(a_this, oX3 a_this_storage a_this_status a_this_channel a_this_registers a_this_first a_this_second o_this), (a_this_first, oX1 a_this_first_digits w_18.1), (a_this_first_digits, .inl (k_this_first_digits, 32, .inl w_18.2)), (a_this_second, oX1 a_this_second_digits w_4.2.1), (a_this_second_digits, .inl (k_this_second_digits, 32, .inl w_4.2.2)), (a_this_status, oX5 o_this_status), (a_this_storage, oX6 a_this_storage_bytes a_this_storage_keys), (a_this_storage_bytes, .inl (k_this_storage_bytes, 2048, .inl r_this_storage_bytes)), (a_this_storage_keys, .inl (k_this_storage_keys, 8, .inl r_this_storage_keys))] := hD
          rw [q_let_of hw] at hF
          refine lv_goto (tgt := 142) hx hb dX3_calculatePacked_128 (by decide) ?_
          refine lv_aload_n hx hb dX3_calculatePacked_142 rfl (lv_at hl 1 rfl) ?_
          refine q_Vi (rest := []) (c_X3_putPacked l D a_this a_this_first a_this_first_digits a_this_status a_this_storage a_this_storage_bytes a_this_channel a_this_registers a_this_second a_this_storage_keys k_this_first_digits k_this_storage_bytes o_this w_18.1 w_18.2 o_this_status r_this_storage_bytes) cv_X3_putPacked hx hb hml hown ht hN hK hA hP hD hS hl.1 (km_X3_351) ⟨Nat.le_of_ble_eq_true rfl, Nat.le_of_ble_eq_true rfl⟩ rfl rfl [0, 1, 2, 5, 6, 7] (by decide) rfl [0, 2] rfl (fun _ => rfl) (ci := 3) rfl rfl rfl rfl rfl (Nat.le_of_ble_eq_true rfl) dX3_calculatePacked_143 ⟨Nat.zero_le _, Nat.zero_le _⟩ (fun r w_19 H locs hw hP hD hS => ?_)
          obtain ⟨hw, hr⟩ := hw
          subst hr
          have hP : va_P D vwCl [(a_this, oX3 a_this_storage a_this_status a_this_channel a_this_registers a_this_first a_this_second o_this), (a_this_first, oX1 a_this_first_digits w_18.1), (a_this_first_digits, .inl (k_this_first_digits, 32, .inl w_18.2)), (a_this_second, oX1 a_this_second_digits w_4.2.1), (a_this_second_digits, .inl (k_this_second_digits, 32, .inl w_4.2.2)), (a_this_status, oX5 w_19.2.1), (a_this_storage, oX6 a_this_storage_bytes a_this_storage_keys), (a_this_storage_bytes, .inl (k_this_storage_bytes, 2048, .inl w_19.2.2)), (a_this_storage_keys, .inl (k_this_storage_keys, 8, .inl r_this_storage_keys))] H := hP
          have hD : va_D A [(a_this, oX3 a_this_storage a_this_status a_this_channel a_this_registers a_this_first a_this_second o_this), (a_this_first, oX1 a_this_first_digits w_18.1), (a_this_first_digits, .inl (k_this_first_digits, 32, .inl w_18.2)), (a_this_second, oX1 a_this_second_digits w_4.2.1), (a_this_second_digits, .inl (k_this_second_digits, 32, .inl w_4.2.2)), (a_this_status, oX5 w_19.2.1), (a_this_storage, oX6 a_this_storage_bytes a_this_storage_keys), (a_this_storage_bytes, .inl (k_this_storage_bytes, 2048, .inl w_19.2.2)), (a_this_storage_keys, .inl (k_this_storage_keys, 8, .inl r_this_storage_keys))] := hD
          rw [q_let_of hw] at hF
          exact hQ w_19.1 (w_19.1, w_18.1, w_18.2, w_4.2.1, w_4.2.2, w_19.2.1, w_19.2.2) _ _ _ _ dX3_calculatePacked_146 ⟨hF.symm, rfl⟩ hP hD hS
    · have c_5 : ¬ w_4.1 = true := by rw [(bI_eq0 _).mp c_5]; decide
      rw [if_neg c_5] at hF
      refine lv_bipush (v := 7) hx hb dX3_calculatePacked_56 (by decide) ?_
      exact hQ 7 (7, o_this_first, r_this_first_digits, w_4.2.1, w_4.2.2, o_this_status, r_this_storage_bytes) _ _ _ _ dX3_calculatePacked_58 ⟨hF.symm, rfl⟩ hP hD hS
  · skip
    rw [if_neg c_3] at hF
    refine lv_iload_n hx hb dX3_calculatePacked_30 rfl (lv_at hl 0 rfl) ?_
    exact hQ (f_X3_faultOfPair o_this (f_X3_storeFault o_this_status r_this_storage_keys o_this.2.2.2.2.2.2.2.2.1 (o_this.2.2.2.2.2.2.1 + (1 : Int32)) 1) (o_this.2.2.2.2.2.2.2.1 + (1 : Int32))) ((f_X3_faultOfPair o_this (f_X3_storeFault o_this_status r_this_storage_keys o_this.2.2.2.2.2.2.2.2.1 (o_this.2.2.2.2.2.2.1 + (1 : Int32)) 1) (o_this.2.2.2.2.2.2.2.1 + (1 : Int32))), o_this_first, r_this_first_digits, o_this_second, r_this_second_digits, o_this_status, r_this_storage_bytes) _ _ _ _ dX3_calculatePacked_31 ⟨hF.symm, rfl⟩ hP hD hS
theorem cv_X3_calculatePacked : qV yX3_calculatePacked cX3_calculatePacked 2 (some .int) 0 := ⟨kc_X3_calculatePacked, kt_X3_calculatePacked, ks_X3_calculatePacked, kn_X3, by decide, by decide +kernel⟩
def f_X3_comparePacked (o_this : Bool × Int32 × Int32 × Int32 × Int32 × Int32 × Int32 × Int32 × Int32 × Int32) (o_this_first : Bool) (r_this_first_digits : Nat → Int32) (o_this_second : Bool) (r_this_second_digits : Nat → Int32) (o_this_status : Int32 × Int32 × Int32 × Int32) (r_this_storage_bytes : Nat → Int32) : Int32 × Bool × (Nat → Int32) × Bool × (Nat → Int32) × (Int32 × Int32 × Int32 × Int32) := (if (f_X3_faultOfPair o_this (f_X3_readFault o_this.2.2.2.2.2.2.2.2.1 (o_this.2.2.2.2.2.2.1 + (1 : Int32)) 1) (o_this.2.2.2.2.2.2.2.1 + (1 : Int32))) = 0 then (q_let (f_X1_takeFrom o_this_first r_this_first_digits r_this_storage_bytes o_this.2.2.2.2.2.2.2.2.1 (o_this.2.2.2.2.2.2.1 + (1 : Int32))) fun w_4 => (if w_4.1 = true then (q_let (f_X1_takeFrom o_this_second r_this_second_digits r_this_storage_bytes o_this.2.2.2.2.2.2.2.2.2 (o_this.2.2.2.2.2.2.2.1 + (1 : Int32))) fun w_6 => (if w_6.1 = true then (0, w_4.2.1, w_4.2.2, w_6.2.1, w_6.2.2, (o_this_status.1, o_this_status.2.1, (f_X1_orderWith w_4.2.1 w_4.2.2 w_6.2.1 w_6.2.2), o_this_status.2.2.2)) else (7, w_4.2.1, w_4.2.2, w_6.2.1, w_6.2.2, o_this_status))) else (7, w_4.2.1, w_4.2.2, o_this_second, r_this_second_digits, o_this_status))) else ((f_X3_faultOfPair o_this (f_X3_readFault o_this.2.2.2.2.2.2.2.2.1 (o_this.2.2.2.2.2.2.1 + (1 : Int32)) 1) (o_this.2.2.2.2.2.2.2.1 + (1 : Int32))), o_this_first, r_this_first_digits, o_this_second, r_this_second_digits, o_this_status))
set_option linter.all false in
set_option maxHeartbeats 4000000 in
set_option maxRecDepth 100000 in
theorem c_X3_comparePacked (l : Launch) (D : va_G) (a_this a_this_first a_this_first_digits a_this_second a_this_second_digits a_this_status a_this_storage a_this_storage_bytes a_this_channel a_this_registers a_this_storage_keys : Nat) (k_this_first_digits k_this_second_digits k_this_storage_bytes : ClassId) (o_this : Bool × Int32 × Int32 × Int32 × Int32 × Int32 × Int32 × Int32 × Int32 × Int32) (o_this_first : Bool) (r_this_first_digits : Nat → Int32) (o_this_second : Bool) (r_this_second_digits : Nat → Int32) (o_this_status : Int32 × Int32 × Int32 × Int32) (r_this_storage_bytes : Nat → Int32) : CtI l yX3_comparePacked cX3_comparePacked 3 (some .int) { frames := 3, cells := 0, slots := 0, locals := 69 } D [.ref a_this] [(a_this, oX3 a_this_storage a_this_status a_this_channel a_this_registers a_this_first a_this_second o_this), (a_this_first, oX1 a_this_first_digits o_this_first), (a_this_first_digits, .inl (k_this_first_digits, 32, .inl r_this_first_digits)), (a_this_second, oX1 a_this_second_digits o_this_second), (a_this_second_digits, .inl (k_this_second_digits, 32, .inl r_this_second_digits)), (a_this_status, oX5 o_this_status), (a_this_storage, oX6 a_this_storage_bytes a_this_storage_keys), (a_this_storage_bytes, .inl (k_this_storage_bytes, 2048, .inl r_this_storage_bytes))] [(k_this_first_digits, .int), (k_this_second_digits, .int), (k_this_storage_bytes, .byte)] (fun (r : Int32) (u : Int32 × Bool × (Nat → Int32) × Bool × (Nat → Int32) × (Int32 × Int32 × Int32 × Int32)) => f_X3_comparePacked o_this o_this_first r_this_first_digits o_this_second r_this_second_digits o_this_status r_this_storage_bytes = u ∧ r = u.1) (fun u => [(a_this, oX3 a_this_storage a_this_status a_this_channel a_this_registers a_this_first a_this_second o_this), (a_this_first, oX1 a_this_first_digits u.2.1), (a_this_first_digits, .inl (k_this_first_digits, 32, .inl u.2.2.1)), (a_this_second, oX1 a_this_second_digits u.2.2.2.1), (a_this_second_digits, .inl (k_this_second_digits, 32, .inl u.2.2.2.2.1)), (a_this_status, oX5 u.2.2.2.2.2), (a_this_storage, oX6 a_this_storage_bytes a_this_storage_keys), (a_this_storage_bytes, .inl (k_this_storage_bytes, 2048, .inl r_this_storage_bytes))]) := by
  refine CtI.of (by decide) (Nat.le_of_ble_eq_true rfl) ?_
  intro p e s m below meth c A ls Q hE hP hD hS hl hQ
  obtain ⟨hx, hb, hml, hown, ht, hN, hK, hA⟩ := hE
  have hown : s.vm.findClass RX3 = some m.cls := hown
  have hl : lv_has ls 3 [(0, .ref a_this)] := hl
  obtain ⟨F, hF⟩ : ∃ F, f_X3_comparePacked o_this o_this_first r_this_first_digits o_this_second r_this_second_digits o_this_status r_this_storage_bytes = F := ⟨_, rfl⟩
  rw [hF] at hQ
  unfold f_X3_comparePacked at hF
  refine lv_aload_n hx hb dX3_comparePacked_0 rfl (lv_at hl 0 rfl) ?_
  refine lv_aload_n hx hb dX3_comparePacked_1 rfl (lv_at hl 0 rfl) ?_
  refine gf_X3_152 (v := .int o_this.2.2.2.2.2.2.2.2.1) hx hb hown ht hK hP 0 rfl rfl dX3_comparePacked_2 ?_
  refine lv_aload_n hx hb dX3_comparePacked_5 rfl (lv_at hl 0 rfl) ?_
  refine gf_X3_142 (v := .int o_this.2.2.2.2.2.2.1) hx hb hown ht hK hP 0 rfl rfl dX3_comparePacked_6 ?_
  refine lv_iconst (v := 1) hx hb dX3_comparePacked_9 (by decide) ?_
  refine lv_iadd hx hb dX3_comparePacked_10 ?_
  refine lv_iconst (v := 1) hx hb dX3_comparePacked_11 (by decide) ?_
  refine q_Si (rest := [.ref a_this]) (c_X3_readFault l D o_this.2.2.2.2.2.2.2.2.1 (o_this.2.2.2.2.2.2.1 + (1 : Int32)) 1) cv_X3_readFault hx hb hml hown ht hN hK hA hP hD hS hl.1 (km_X3_165) ⟨Nat.le_of_ble_eq_true rfl, Nat.le_of_ble_eq_true rfl⟩ rfl rfl [] (by decide) rfl [] rfl (fun _ => rfl) rfl rfl (Nat.le_of_ble_eq_true rfl) dX3_comparePacked_12 ⟨Nat.zero_le _, Nat.zero_le _⟩ (fun r u H locs hw hP hD hS => ?_)
  obtain ⟨rfl, rfl⟩ := hw
  have hP : va_P D vwCl [(a_this, oX3 a_this_storage a_this_status a_this_channel a_this_registers a_this_first a_this_second o_this), (a_this_first, oX1 a_this_first_digits o_this_first), (a_this_first_digits, .inl (k_this_first_digits, 32, .inl r_this_first_digits)), (a_this_second, oX1 a_this_second_digits o_this_second), (a_this_second_digits, .inl (k_this_second_digits, 32, .inl r_this_second_digits)), (a_this_status, oX5 o_this_status), (a_this_storage, oX6 a_this_storage_bytes a_this_storage_keys), (a_this_storage_bytes, .inl (k_this_storage_bytes, 2048, .inl r_this_storage_bytes))] H := hP
  have hD : va_D A [(a_this, oX3 a_this_storage a_this_status a_this_channel a_this_registers a_this_first a_this_second o_this), (a_this_first, oX1 a_this_first_digits o_this_first), (a_this_first_digits, .inl (k_this_first_digits, 32, .inl r_this_first_digits)), (a_this_second, oX1 a_this_second_digits o_this_second), (a_this_second_digits, .inl (k_this_second_digits, 32, .inl r_this_second_digits)), (a_this_status, oX5 o_this_status), (a_this_storage, oX6 a_this_storage_bytes a_this_storage_keys), (a_this_storage_bytes, .inl (k_this_storage_bytes, 2048, .inl r_this_storage_bytes))] := hD
  refine lv_aload_n hx hb dX3_comparePacked_15 rfl (lv_at hl 0 rfl) ?_
  refine gf_X3_145 (v := .int o_this.2.2.2.2.2.2.2.1) hx hb hown ht hK hP 0 rfl rfl dX3_comparePacked_16 ?_
  refine lv_iconst (v := 1) hx hb dX3_comparePacked_19 (by decide) ?_
  refine lv_iadd hx hb dX3_comparePacked_20 ?_
  refine q_Vi (rest := []) (c_X3_faultOfPair l D a_this a_this_storage a_this_status a_this_channel a_this_registers a_this_first a_this_second o_this (f_X3_readFault o_this.2.2.2.2.2.2.2.2.1 (o_this.2.2.2.2.2.2.1 + (1 : Int32)) 1) (o_this.2.2.2.2.2.2.2.1 + (1 : Int32))) cv_X3_faultOfPair hx hb hml hown ht hN hK hA hP hD hS hl.1 (km_X3_341) ⟨Nat.le_of_ble_eq_true rfl, Nat.le_of_ble_eq_true rfl⟩ rfl rfl [0] (by decide) rfl [] rfl (fun _ => rfl) (ci := 3) rfl rfl rfl rfl rfl (Nat.le_of_ble_eq_true rfl) dX3_comparePacked_21 ⟨Nat.zero_le _, Nat.zero_le _⟩ (fun r u H locs hw hP hD hS => ?_)
  obtain ⟨rfl, rfl⟩ := hw
  have hP : va_P D vwCl [(a_this, oX3 a_this_storage a_this_status a_this_channel a_this_registers a_this_first a_this_second o_this), (a_this_first, oX1 a_this_first_digits o_this_first), (a_this_first_digits, .inl (k_this_first_digits, 32, .inl r_this_first_digits)), (a_this_second, oX1 a_this_second_digits o_this_second), (a_this_second_digits, .inl (k_this_second_digits, 32, .inl r_this_second_digits)), (a_this_status, oX5 o_this_status), (a_this_storage, oX6 a_this_storage_bytes a_this_storage_keys), (a_this_storage_bytes, .inl (k_this_storage_bytes, 2048, .inl r_this_storage_bytes))] H := hP
  have hD : va_D A [(a_this, oX3 a_this_storage a_this_status a_this_channel a_this_registers a_this_first a_this_second o_this), (a_this_first, oX1 a_this_first_digits o_this_first), (a_this_first_digits, .inl (k_this_first_digits, 32, .inl r_this_first_digits)), (a_this_second, oX1 a_this_second_digits o_this_second), (a_this_second_digits, .inl (k_this_second_digits, 32, .inl r_this_second_digits)), (a_this_status, oX5 o_this_status), (a_this_storage, oX6 a_this_storage_bytes a_this_storage_keys), (a_this_storage_bytes, .inl (k_this_storage_bytes, 2048, .inl r_this_storage_bytes))] := hD
  refine lv_istore_n (lv' := [(1, .int (f_X3_faultOfPair o_this (f_X3_readFault o_this.2.2.2.2.2.2.2.2.1 (o_this.2.2.2.2.2.2.1 + (1 : Int32)) 1) (o_this.2.2.2.2.2.2.2.1 + (1 : Int32)))), (0, .ref a_this)]) hx hb dX3_comparePacked_24 rfl hl (by decide) rfl (fun ls hl => ?_)
  refine lv_iload_n hx hb dX3_comparePacked_25 rfl (lv_at hl 0 rfl) ?_
  refine lv_if_eq (tgt := 31) hx hb dX3_comparePacked_26 (by decide) (fun c_3 => ?_) (fun c_3 => ?_)
  · skip
    rw [if_pos c_3] at hF
    refine lv_aload_n hx hb dX3_comparePacked_31 rfl (lv_at hl 1 rfl) ?_
    refine gf_X3_39 (v := .ref a_this_first) hx hb hown ht hK hP 0 rfl rfl dX3_comparePacked_32 ?_
    refine lv_aload_n hx hb dX3_comparePacked_35 rfl (lv_at hl 1 rfl) ?_
    refine gf_X3_12 (v := .ref a_this_storage) hx hb hown ht hK hP 0 rfl rfl dX3_comparePacked_36 ?_
    refine lv_aload_n hx hb dX3_comparePacked_39 rfl (lv_at hl 1 rfl) ?_
    refine gf_X3_152 (v := .int o_this.2.2.2.2.2.2.2.2.1) hx hb hown ht hK hP 0 rfl rfl dX3_comparePacked_40 ?_
    refine lv_aload_n hx hb dX3_comparePacked_43 rfl (lv_at hl 1 rfl) ?_
    refine gf_X3_142 (v := .int o_this.2.2.2.2.2.2.1) hx hb hown ht hK hP 0 rfl rfl dX3_comparePacked_44 ?_
    refine lv_iconst (v := 1) hx hb dX3_comparePacked_47 (by decide) ?_
    refine lv_iadd hx hb dX3_comparePacked_48 ?_
    refine q_Vi (rest := []) (c_X1_takeFrom l D a_this_first a_this_first_digits a_this_storage a_this_storage_bytes a_this_storage_keys k_this_first_digits k_this_storage_bytes o_this_first r_this_first_digits r_this_storage_bytes o_this.2.2.2.2.2.2.2.2.1 (o_this.2.2.2.2.2.2.1 + (1 : Int32))) cv_X1_takeFrom hx hb hml hown ht hN hK hA hP hD hS hl.1 (km_X3_279) ⟨Nat.le_of_ble_eq_true rfl, Nat.le_of_ble_eq_true rfl⟩ rfl rfl [1, 2, 6, 7] (by decide) rfl [0, 2] rfl (fun _ => rfl) (ci := 1) rfl rfl rfl rfl rfl (Nat.le_of_ble_eq_true rfl) dX3_comparePacked_49 ⟨Nat.zero_le _, Nat.zero_le _⟩ (fun r w_4 H locs hw hP hD hS => ?_)
    obtain ⟨hw, hr⟩ := hw
    subst hr
    have hP : va_P D vwCl [(a_this, oX3 a_this_storage a_this_status a_this_channel a_this_registers a_this_first a_this_second o_this), (a_this_first, oX1 a_this_first_digits w_4.2.1), (a_this_first_digits, .inl (k_this_first_digits, 32, .inl w_4.2.2)), (a_this_second, oX1 a_this_second_digits o_this_second), (a_this_second_digits, .inl (k_this_second_digits, 32, .inl r_this_second_digits)), (a_this_status, oX5 o_this_status), (a_this_storage, oX6 a_this_storage_bytes a_this_storage_keys), (a_this_storage_bytes, .inl (k_this_storage_bytes, 2048, .inl r_this_storage_bytes))] H := hP
    have hD : va_D A [(a_this, oX3 a_this_storage a_this_status a_this_channel a_this_registers a_this_first a_this_second o_this), (a_this_first, oX1 a_this_first_digits w_4.2.1), (a_this_first_digits, .inl (k_this_first_digits, 32, .inl w_4.2.2)), (a_this_second, oX1 a_this_second_digits o_this_second), (a_this_second_digits, .inl (k_this_second_digits, 32, .inl r_this_second_digits)), (a_this_status, oX5 o_this_status), (a_this_storage, oX6 a_this_storage_bytes a_this_storage_keys), (a_this_storage_bytes, .inl (k_this_storage_bytes, 2048, .inl r_this_storage_bytes))] := hD
    rw [q_let_of hw] at hF
    refine lv_istore_n (lv' := [(2, .int (bI w_4.1)), (1, .int (f_X3_faultOfPair o_this (f_X3_readFault o_this.2.2.2.2.2.2.2.2.1 (o_this.2.2.2.2.2.2.1 + (1 : Int32)) 1) (o_this.2.2.2.2.2.2.2.1 + (1 : Int32)))), (0, .ref a_this)]) hx hb dX3_comparePacked_52 rfl hl (by decide) rfl (fun ls hl => ?_)
    refine lv_iload_n hx hb dX3_comparePacked_53 rfl (lv_at hl 0 rfl) ?_
    refine lv_if_eq (tgt := 81) hx hb dX3_comparePacked_54 (by decide) (fun c_5 => ?_) (fun c_5 => ?_)
    · have c_5 : ¬ w_4.1 = true := by rw [(bI_eq0 _).mp c_5]; decide
      rw [if_neg c_5] at hF
      refine lv_bipush (v := 7) hx hb dX3_comparePacked_81 (by decide) ?_
      exact hQ 7 (7, w_4.2.1, w_4.2.2, o_this_second, r_this_second_digits, o_this_status) _ _ _ _ dX3_comparePacked_83 ⟨hF.symm, rfl⟩ hP hD hS
    · have c_5 := (bI_ne0 _).mp c_5
      rw [if_pos c_5] at hF
      refine lv_aload_n hx hb dX3_comparePacked_57 rfl (lv_at hl 2 rfl) ?_
      refine gf_X3_43 (v := .ref a_this_second) hx hb hown ht hK hP 0 rfl rfl dX3_comparePacked_58 ?_
      refine lv_aload_n hx hb dX3_comparePacked_61 rfl (lv_at hl 2 rfl) ?_
      refine gf_X3_12 (v := .ref a_this_storage) hx hb hown ht hK hP 0 rfl rfl dX3_comparePacked_62 ?_
      refine lv_aload_n hx hb dX3_comparePacked_65 rfl (lv_at hl 2 rfl) ?_
      refine gf_X3_155 (v := .int o_this.2.2.2.2.2.2.2.2.2) hx hb hown ht hK hP 0 rfl rfl dX3_comparePacked_66 ?_
      refine lv_aload_n hx hb dX3_comparePacked_69 rfl (lv_at hl 2 rfl) ?_
      refine gf_X3_145 (v := .int o_this.2.2.2.2.2.2.2.1) hx hb hown ht hK hP 0 rfl rfl dX3_comparePacked_70 ?_
      refine lv_iconst (v := 1) hx hb dX3_comparePacked_73 (by decide) ?_
      refine lv_iadd hx hb dX3_comparePacked_74 ?_
      refine q_Vi (rest := []) (c_X1_takeFrom l D a_this_second a_this_second_digits a_this_storage a_this_storage_bytes a_this_storage_keys k_this_second_digits k_this_storage_bytes o_this_second r_this_second_digits r_this_storage_bytes o_this.2.2.2.2.2.2.2.2.2 (o_this.2.2.2.2.2.2.2.1 + (1 : Int32))) cv_X1_takeFrom hx hb hml hown ht hN hK hA hP hD hS hl.1 (km_X3_279) ⟨Nat.le_of_ble_eq_true rfl, Nat.le_of_ble_eq_true rfl⟩ rfl rfl [3, 4, 6, 7] (by decide) rfl [1, 2] rfl (fun _ => rfl) (ci := 1) rfl rfl rfl rfl rfl (Nat.le_of_ble_eq_true rfl) dX3_comparePacked_75 ⟨Nat.zero_le _, Nat.zero_le _⟩ (fun r w_6 H locs hw hP hD hS => ?_)
      obtain ⟨hw, hr⟩ := hw
      subst hr
      have hP : va_P D vwCl [(a_this, oX3 a_this_storage a_this_status a_this_channel a_this_registers a_this_first a_this_second o_this), (a_this_first, oX1 a_this_first_digits w_4.2.1), (a_this_first_digits, .inl (k_this_first_digits, 32, .inl w_4.2.2)), (a_this_second, oX1 a_this_second_digits w_6.2.1), (a_this_second_digits, .inl (k_this_second_digits, 32, .inl w_6.2.2)), (a_this_status, oX5 o_this_status), (a_this_storage, oX6 a_this_storage_bytes a_this_storage_keys), (a_this_storage_bytes, .inl (k_this_storage_bytes, 2048, .inl r_this_storage_bytes))] H := hP
      have hD : va_D A [(a_this, oX3 a_this_storage a_this_status a_this_channel a_this_registers a_this_first a_this_second o_this), (a_this_first, oX1 a_this_first_digits w_4.2.1), (a_this_first_digits, .inl (k_this_first_digits, 32, .inl w_4.2.2)), (a_this_second, oX1 a_this_second_digits w_6.2.1), (a_this_second_digits, .inl (k_this_second_digits, 32, .inl w_6.2.2)), (a_this_status, oX5 o_this_status), (a_this_storage, oX6 a_this_storage_bytes a_this_storage_keys), (a_this_storage_bytes, .inl (k_this_storage_bytes, 2048, .inl r_this_storage_bytes))] := hD
      rw [q_let_of hw] at hF
      refine lv_if_ne (tgt := 84) hx hb dX3_comparePacked_78 (by decide) (fun c_7 => ?_) (fun c_7 => ?_)
      · have c_7 := (bI_ne0 _).mp c_7
        rw [if_pos c_7] at hF
        refine lv_aload_n hx hb dX3_comparePacked_84 rfl (lv_at hl 2 rfl) ?_
        refine gf_X3_21 (v := .ref a_this_status) hx hb hown ht hK hP 0 rfl rfl dX3_comparePacked_85 ?_
        refine lv_aload_n hx hb dX3_comparePacked_88 rfl (lv_at hl 2 rfl) ?_
        refine gf_X3_39 (v := .ref a_this_first) hx hb hown ht hK hP 0 rfl rfl dX3_comparePacked_89 ?_
        refine lv_aload_n hx hb dX3_comparePacked_92 rfl (lv_at hl 2 rfl) ?_
        refine gf_X3_43 (v := .ref a_this_second) hx hb hown ht hK hP 0 rfl rfl dX3_comparePacked_93 ?_
        refine q_Vi (rest := [.ref a_this_status]) (c_X1_orderWith l D a_this_first a_this_first_digits a_this_second a_this_second_digits k_this_first_digits k_this_second_digits w_4.2.1 w_4.2.2 w_6.2.1 w_6.2.2) cv_X1_orderWith hx hb hml hown ht hN hK hA hP hD hS hl.1 (km_X3_357) ⟨Nat.le_of_ble_eq_true rfl, Nat.le_of_ble_eq_true rfl⟩ rfl rfl [1, 2, 3, 4] (by decide) rfl [0, 1] rfl (fun _ => rfl) (ci := 1) rfl rfl rfl rfl rfl (Nat.le_of_ble_eq_true rfl) dX3_comparePacked_96 ⟨Nat.zero_le _, Nat.zero_le _⟩ (fun r u H locs hw hP hD hS => ?_)
        obtain ⟨rfl, rfl⟩ := hw
        have hP : va_P D vwCl [(a_this, oX3 a_this_storage a_this_status a_this_channel a_this_registers a_this_first a_this_second o_this), (a_this_first, oX1 a_this_first_digits w_4.2.1), (a_this_first_digits, .inl (k_this_first_digits, 32, .inl w_4.2.2)), (a_this_second, oX1 a_this_second_digits w_6.2.1), (a_this_second_digits, .inl (k_this_second_digits, 32, .inl w_6.2.2)), (a_this_status, oX5 o_this_status), (a_this_storage, oX6 a_this_storage_bytes a_this_storage_keys), (a_this_storage_bytes, .inl (k_this_storage_bytes, 2048, .inl r_this_storage_bytes))] H := hP
        have hD : va_D A [(a_this, oX3 a_this_storage a_this_status a_this_channel a_this_registers a_this_first a_this_second o_this), (a_this_first, oX1 a_this_first_digits w_4.2.1), (a_this_first_digits, .inl (k_this_first_digits, 32, .inl w_4.2.2)), (a_this_second, oX1 a_this_second_digits w_6.2.1), (a_this_second_digits, .inl (k_this_second_digits, 32, .inl w_6.2.2)), (a_this_status, oX5 o_this_status), (a_this_storage, oX6 a_this_storage_bytes a_this_storage_keys), (a_this_storage_bytes, .inl (k_this_storage_bytes, 2048, .inl r_this_storage_bytes))] := hD
        refine pf_X3_209 (x := (f_X1_orderWith w_4.2.1 w_4.2.2 w_6.2.1 w_6.2.2)) hx hb hown ht hK hP hD hS 5 rfl (Nat.le_of_ble_eq_true rfl) dX3_comparePacked_99 (fun H locs hP hD hS => ?_)
        have hP : va_P D vwCl [(a_this, oX3 a_this_storage a_this_status a_this_channel a_this_registers a_this_first a_this_second o_this), (a_this_first, oX1 a_this_first_digits w_4.2.1), (a_this_first_digits, .inl (k_this_first_digits, 32, .inl w_4.2.2)), (a_this_second, oX1 a_this_second_digits w_6.2.1), (a_this_second_digits, .inl (k_this_second_digits, 32, .inl w_6.2.2)), (a_this_status, oX5 (o_this_status.1, o_this_status.2.1, (f_X1_orderWith w_4.2.1 w_4.2.2 w_6.2.1 w_6.2.2), o_this_status.2.2.2)), (a_this_storage, oX6 a_this_storage_bytes a_this_storage_keys), (a_this_storage_bytes, .inl (k_this_storage_bytes, 2048, .inl r_this_storage_bytes))] H := hP
        have hD : va_D A [(a_this, oX3 a_this_storage a_this_status a_this_channel a_this_registers a_this_first a_this_second o_this), (a_this_first, oX1 a_this_first_digits w_4.2.1), (a_this_first_digits, .inl (k_this_first_digits, 32, .inl w_4.2.2)), (a_this_second, oX1 a_this_second_digits w_6.2.1), (a_this_second_digits, .inl (k_this_second_digits, 32, .inl w_6.2.2)), (a_this_status, oX5 (o_this_status.1, o_this_status.2.1, (f_X1_orderWith w_4.2.1 w_4.2.2 w_6.2.1 w_6.2.2), o_this_status.2.2.2)), (a_this_storage, oX6 a_this_storage_bytes a_this_storage_keys), (a_this_storage_bytes, .inl (k_this_storage_bytes, 2048, .inl r_this_storage_bytes))] := hD
        refine lv_iconst (v := 0) hx hb dX3_comparePacked_102 (by decide) ?_
        exact hQ 0 (0, w_4.2.1, w_4.2.2, w_6.2.1, w_6.2.2, (o_this_status.1, o_this_status.2.1, (f_X1_orderWith w_4.2.1 w_4.2.2 w_6.2.1 w_6.2.2), o_this_status.2.2.2)) _ _ _ _ dX3_comparePacked_103 ⟨hF.symm, rfl⟩ hP hD hS
      · have c_7 : ¬ w_6.1 = true := by rw [(bI_eq0 _).mp c_7]; decide
        rw [if_neg c_7] at hF
        refine lv_bipush (v := 7) hx hb dX3_comparePacked_81 (by decide) ?_
        exact hQ 7 (7, w_4.2.1, w_4.2.2, w_6.2.1, w_6.2.2, o_this_status) _ _ _ _ dX3_comparePacked_83 ⟨hF.symm, rfl⟩ hP hD hS
  · skip
    rw [if_neg c_3] at hF
    refine lv_iload_n hx hb dX3_comparePacked_29 rfl (lv_at hl 0 rfl) ?_
    exact hQ (f_X3_faultOfPair o_this (f_X3_readFault o_this.2.2.2.2.2.2.2.2.1 (o_this.2.2.2.2.2.2.1 + (1 : Int32)) 1) (o_this.2.2.2.2.2.2.2.1 + (1 : Int32))) ((f_X3_faultOfPair o_this (f_X3_readFault o_this.2.2.2.2.2.2.2.2.1 (o_this.2.2.2.2.2.2.1 + (1 : Int32)) 1) (o_this.2.2.2.2.2.2.2.1 + (1 : Int32))), o_this_first, r_this_first_digits, o_this_second, r_this_second_digits, o_this_status) _ _ _ _ dX3_comparePacked_30 ⟨hF.symm, rfl⟩ hP hD hS
theorem cv_X3_comparePacked : qV yX3_comparePacked cX3_comparePacked 3 (some .int) 0 := ⟨kc_X3_comparePacked, kt_X3_comparePacked, ks_X3_comparePacked, kn_X3, by decide, by decide +kernel⟩
