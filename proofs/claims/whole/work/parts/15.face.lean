
def f_X7_load_L27 (p1 : Int32) (p2 : Int64) (p3 : Int32) : Nat → (Nat → Int32) → Int32 → Bool × (Nat → Int32)
  | 0, r_this_processor_storage_bytes_L27, x5 => (false, r_this_processor_storage_bytes_L27)
  | fuel + 1, r_this_processor_storage_bytes_L27, x5 => (if p3 ≤ x5 then (true, r_this_processor_storage_bytes_L27) else (q_let (f_X6_putByte r_this_processor_storage_bytes_L27 (p1 + x5) (f_X7_byteOf p2 ((p3 - (1 : Int32)) - x5))) fun w_8 => f_X7_load_L27 p1 p2 p3 fuel w_8 (x5 + (1 : Int32))))
def f_X7_load (r_this_processor_storage_bytes : Nat → Int32) (p1 : Int32) (p2 : Int64) (p3 : Int32) : Bool × (Nat → Int32) := (if p3 < (1 : Int32) then (false, r_this_processor_storage_bytes) else (if (8 : Int32) < p3 then (false, r_this_processor_storage_bytes) else (if (f_X6_holds p1 p3) = true then f_X7_load_L27 p1 p2 p3 (((p3 : Int32).toInt - (0 : Int32).toInt).toNat + 1) r_this_processor_storage_bytes 0 else (false, r_this_processor_storage_bytes))))
set_option linter.all false in
set_option maxHeartbeats 4000000 in
set_option maxRecDepth 100000 in
theorem c_X7_load (l : Launch) (D : va_G) (a_this a_this_processor a_this_processor_storage a_this_processor_storage_bytes a_this_processor_status a_this_processor_channel a_this_processor_registers a_this_processor_first a_this_processor_second a_this_processor_storage_keys : Nat) (k_this_processor_storage_bytes : ClassId) (o_this_processor : Bool × Int32 × Int32 × Int32 × Int32 × Int32 × Int32 × Int32 × Int32 × Int32) (r_this_processor_storage_bytes : Nat → Int32) (p1 : Int32) (p2 : Int64) (p3 : Int32) : CtI l yX7_load cX7_load 6 (some .boolean) { frames := 1, cells := 0, slots := 0, locals := 22 } D [.ref a_this, .int p1, .long p2, .int p3] [(a_this, oX7 a_this_processor), (a_this_processor, oX3 a_this_processor_storage a_this_processor_status a_this_processor_channel a_this_processor_registers a_this_processor_first a_this_processor_second o_this_processor), (a_this_processor_storage, oX6 a_this_processor_storage_bytes a_this_processor_storage_keys), (a_this_processor_storage_bytes, .inl (k_this_processor_storage_bytes, 2048, .inl r_this_processor_storage_bytes))] [(k_this_processor_storage_bytes, .byte)] (fun (r : Int32) (u : Bool × (Nat → Int32)) => f_X7_load r_this_processor_storage_bytes p1 p2 p3 = u ∧ r = bI u.1) (fun u => [(a_this, oX7 a_this_processor), (a_this_processor, oX3 a_this_processor_storage a_this_processor_status a_this_processor_channel a_this_processor_registers a_this_processor_first a_this_processor_second o_this_processor), (a_this_processor_storage, oX6 a_this_processor_storage_bytes a_this_processor_storage_keys), (a_this_processor_storage_bytes, .inl (k_this_processor_storage_bytes, 2048, .inl u.2))]) := by
  refine CtI.ofZ (by decide) (Nat.le_of_ble_eq_true rfl) ?_
  intro p e s m below meth c A ls Q hE hP hD hS hl hQ
  obtain ⟨hx, hb, hml, hown, ht, hN, hK, hA⟩ := hE
  have hown : s.vm.findClass RX7 = some m.cls := hown
  have hl : lv_has ls 6 [(0, .ref a_this), (1, .int p1), (2, .long p2), (4, .int p3)] := hl
  obtain ⟨F, hF⟩ : ∃ F, f_X7_load r_this_processor_storage_bytes p1 p2 p3 = F := ⟨_, rfl⟩
  rw [hF] at hQ
  unfold f_X7_load at hF
  refine lv_iload hx hb dX7_load_0 (lv_at hl 3 rfl) ?_
  refine lv_iconst (v := 1) hx hb dX7_load_2 (by decide) ?_
  refine lv_icmp_lt (tgt := 22) hx hb dX7_load_3 (by decide) (fun c_1 => ?_) (fun c_1 => ?_)
  · skip
    rw [if_pos c_1] at hF
    refine lv_iconst (v := 0) hx hb dX7_load_22 (by decide) ?_
    exact hQ false (false, r_this_processor_storage_bytes) _ _ _ _ dX7_load_23 ⟨hF.symm, rfl⟩ hP hD hS
  · skip
    rw [if_neg c_1] at hF
    refine lv_iload hx hb dX7_load_6 (lv_at hl 3 rfl) ?_
    refine lv_bipush (v := 8) hx hb dX7_load_8 (by decide) ?_
    refine lv_icmp_gt (tgt := 22) hx hb dX7_load_10 (by decide) (fun c_2 => ?_) (fun c_2 => ?_)
    · skip
      rw [if_pos c_2] at hF
      refine lv_iconst (v := 0) hx hb dX7_load_22 (by decide) ?_
      exact hQ false (false, r_this_processor_storage_bytes) _ _ _ _ dX7_load_23 ⟨hF.symm, rfl⟩ hP hD hS
    · skip
      rw [if_neg c_2] at hF
      refine lv_iload_n hx hb dX7_load_13 rfl (lv_at hl 1 rfl) ?_
      refine lv_iload hx hb dX7_load_14 (lv_at hl 3 rfl) ?_
      refine q_Si (rest := []) (c_X6_holds l D p1 p3) cv_X6_holds hx hb hml hown ht hN hK hA hP hD hS hl.1 (km_X7_16) ⟨Nat.le_of_ble_eq_true rfl, Nat.le_of_ble_eq_true rfl⟩ rfl rfl [] (by decide) rfl [] rfl (fun _ => rfl) rfl rfl (Nat.le_of_ble_eq_true rfl) dX7_load_16 ⟨Nat.zero_le _, Nat.zero_le _⟩ (fun r u H locs hw hP hD hS => ?_)
      obtain ⟨rfl, rfl⟩ := hw
      have hP : va_P D vwCl [(a_this, oX7 a_this_processor), (a_this_processor, oX3 a_this_processor_storage a_this_processor_status a_this_processor_channel a_this_processor_registers a_this_processor_first a_this_processor_second o_this_processor), (a_this_processor_storage, oX6 a_this_processor_storage_bytes a_this_processor_storage_keys), (a_this_processor_storage_bytes, .inl (k_this_processor_storage_bytes, 2048, .inl r_this_processor_storage_bytes))] H := hP
      have hD : va_D A [(a_this, oX7 a_this_processor), (a_this_processor, oX3 a_this_processor_storage a_this_processor_status a_this_processor_channel a_this_processor_registers a_this_processor_first a_this_processor_second o_this_processor), (a_this_processor_storage, oX6 a_this_processor_storage_bytes a_this_processor_storage_keys), (a_this_processor_storage_bytes, .inl (k_this_processor_storage_bytes, 2048, .inl r_this_processor_storage_bytes))] := hD
      refine lv_if_ne (tgt := 24) hx hb dX7_load_19 (by decide) (fun c_4 => ?_) (fun c_4 => ?_)
      · have c_4 := (bI_ne0 _).mp c_4
        rw [if_pos c_4] at hF
        refine lv_iconst (v := 0) hx hb dX7_load_24 (by decide) ?_
        refine lv_istore (lv' := [(5, .int 0), (0, .ref a_this), (1, .int p1), (2, .long p2), (4, .int p3)]) hx hb dX7_load_25 hl (by decide) rfl (fun ls hl => ?_)
        have L27 : ∀ (fuel : Nat) (r_this_processor_storage_bytes_L27 : Nat → Int32) (x5 : Int32) (H : Heap) (locs : List Loc) (ls : Array Slot), ((p3 : Int32).toInt - (x5 : Int32).toInt).toNat < fuel → va_P D vwCl [(a_this, oX7 a_this_processor), (a_this_processor, oX3 a_this_processor_storage a_this_processor_status a_this_processor_channel a_this_processor_registers a_this_processor_first a_this_processor_second o_this_processor), (a_this_processor_storage, oX6 a_this_processor_storage_bytes a_this_processor_storage_keys), (a_this_processor_storage_bytes, .inl (k_this_processor_storage_bytes, 2048, .inl r_this_processor_storage_bytes_L27))] H → va_D A [(a_this, oX7 a_this_processor), (a_this_processor, oX3 a_this_processor_storage a_this_processor_status a_this_processor_channel a_this_processor_registers a_this_processor_first a_this_processor_second o_this_processor), (a_this_processor_storage, oX6 a_this_processor_storage_bytes a_this_processor_storage_keys), (a_this_processor_storage_bytes, .inl (k_this_processor_storage_bytes, 2048, .inl r_this_processor_storage_bytes_L27))] → va_S A s.heap H locs → lv_has ls 6 [(5, .int x5), (0, .ref a_this), (1, .int p1), (2, .long p2), (4, .int p3)] → f_X7_load_L27 p1 p2 p3 fuel r_this_processor_storage_bytes_L27 x5 = F → W p l e ({ frames := 1, cells := 0, slots := 0, locals := 22 } : Room) s m ([.ref a_this, .int p1, .long p2, .int p3] : List Value).toArray below meth c H locs 0 0 Q (F0 m 27 ls []) := by
          intro fuel
          induction fuel with
          | zero => intro r_this_processor_storage_bytes_L27 x5 H locs ls hm; exact absurd hm (Nat.not_lt_zero _)
          | succ fuel ih =>
            intro r_this_processor_storage_bytes_L27 x5 H locs ls hm  hP hD hS hl hF
            rw [f_X7_load_L27] at hF
            skip
            refine lv_iload hx hb dX7_load_27 (lv_at hl 0 rfl) ?_
            refine lv_iload hx hb dX7_load_29 (lv_at hl 4 rfl) ?_
            refine lv_icmp_ge (tgt := 65) hx hb dX7_load_31 (by decide) (fun c_6 => ?_) (fun c_6 => ?_)
            · skip
              rw [if_pos c_6] at hF
              refine lv_iconst (v := 1) hx hb dX7_load_65 (by decide) ?_
              exact hQ true (true, r_this_processor_storage_bytes_L27) _ _ _ _ dX7_load_66 ⟨hF.symm, rfl⟩ hP hD hS
            · skip
              rw [if_neg c_6] at hF
              refine lv_aload_n hx hb dX7_load_34 rfl (lv_at hl 1 rfl) ?_
              refine gf_X7_10 (v := .ref a_this_processor) hx hb hown ht hK hP 0 rfl rfl dX7_load_35 ?_
              refine gf_X7_22 (v := .ref a_this_processor_storage) hx hb hown ht hK hP 1 rfl rfl dX7_load_38 ?_
              refine lv_iload_n hx hb dX7_load_41 rfl (lv_at hl 2 rfl) ?_
              refine lv_iload hx hb dX7_load_42 (lv_at hl 0 rfl) ?_
              refine lv_iadd hx hb dX7_load_44 ?_
              refine lv_lload_n hx hb dX7_load_45 rfl (lv_at hl 3 rfl) ?_
              refine lv_iload hx hb dX7_load_46 (lv_at hl 4 rfl) ?_
              refine lv_iconst (v := 1) hx hb dX7_load_48 (by decide) ?_
              refine lv_isub hx hb dX7_load_49 ?_
              refine lv_iload hx hb dX7_load_50 (lv_at hl 0 rfl) ?_
              refine lv_isub hx hb dX7_load_52 ?_
              refine q_Si (rest := [.int (p1 + x5), .ref a_this_processor_storage]) (c_X7_byteOf l D p2 ((p3 - (1 : Int32)) - x5)) cv_X7_byteOf hx hb hml hown ht hN hK hA hP hD hS hl.1 (km_X7_26) ⟨Nat.le_of_ble_eq_true rfl, Nat.le_of_ble_eq_true rfl⟩ rfl rfl [] (by decide) rfl [] rfl (fun _ => rfl) rfl rfl (Nat.le_of_ble_eq_true rfl) dX7_load_53 ⟨Nat.zero_le _, Nat.zero_le _⟩ (fun r u H locs hw hP hD hS => ?_)
              obtain ⟨rfl, rfl⟩ := hw
              have hP : va_P D vwCl [(a_this, oX7 a_this_processor), (a_this_processor, oX3 a_this_processor_storage a_this_processor_status a_this_processor_channel a_this_processor_registers a_this_processor_first a_this_processor_second o_this_processor), (a_this_processor_storage, oX6 a_this_processor_storage_bytes a_this_processor_storage_keys), (a_this_processor_storage_bytes, .inl (k_this_processor_storage_bytes, 2048, .inl r_this_processor_storage_bytes_L27))] H := hP
              have hD : va_D A [(a_this, oX7 a_this_processor), (a_this_processor, oX3 a_this_processor_storage a_this_processor_status a_this_processor_channel a_this_processor_registers a_this_processor_first a_this_processor_second o_this_processor), (a_this_processor_storage, oX6 a_this_processor_storage_bytes a_this_processor_storage_keys), (a_this_processor_storage_bytes, .inl (k_this_processor_storage_bytes, 2048, .inl r_this_processor_storage_bytes_L27))] := hD
              refine q_Vv (rest := []) (c_X6_putByte l D a_this_processor_storage a_this_processor_storage_bytes a_this_processor_storage_keys k_this_processor_storage_bytes r_this_processor_storage_bytes_L27 (p1 + x5) (f_X7_byteOf p2 ((p3 - (1 : Int32)) - x5))) cv_X6_putByte hx hb hml hown ht hN hK hA hP hD hS hl.1 (km_X7_30) ⟨Nat.le_of_ble_eq_true rfl, Nat.le_of_ble_eq_true rfl⟩ rfl rfl [2, 3] (by decide) rfl [0] rfl (fun _ => rfl) (ci := 6) rfl rfl rfl rfl rfl (Nat.le_of_ble_eq_true rfl) dX7_load_56 ⟨Nat.zero_le _, Nat.zero_le _⟩ (fun w_8 H locs hw hP hD hS => ?_)
              have hP : va_P D vwCl [(a_this, oX7 a_this_processor), (a_this_processor, oX3 a_this_processor_storage a_this_processor_status a_this_processor_channel a_this_processor_registers a_this_processor_first a_this_processor_second o_this_processor), (a_this_processor_storage, oX6 a_this_processor_storage_bytes a_this_processor_storage_keys), (a_this_processor_storage_bytes, .inl (k_this_processor_storage_bytes, 2048, .inl w_8))] H := hP
              have hD : va_D A [(a_this, oX7 a_this_processor), (a_this_processor, oX3 a_this_processor_storage a_this_processor_status a_this_processor_channel a_this_processor_registers a_this_processor_first a_this_processor_second o_this_processor), (a_this_processor_storage, oX6 a_this_processor_storage_bytes a_this_processor_storage_keys), (a_this_processor_storage_bytes, .inl (k_this_processor_storage_bytes, 2048, .inl w_8))] := hD
              rw [q_let_of hw] at hF
              refine lv_iinc (v := (x5 + (1 : Int32))) (lv' := [(5, .int (x5 + (1 : Int32))), (0, .ref a_this), (1, .int p1), (2, .long p2), (4, .int p3)]) hx hb dX7_load_59 hl (k := 0) rfl rfl (by decide) rfl (fun ls hl => ?_)
              refine lv_goto (tgt := 27) hx hb dX7_load_62 (by decide) ?_
              exact ih w_8 (x5 + (1 : Int32)) _ _ _ (by first | exact q_up hm c_1 | exact q_up hm c_2 | exact q_up hm c_4 | exact q_up hm c_6)  hP hD hS (lv_sub hl [0, 1, 2, 3, 4] rfl) hF
        exact L27 (((p3 : Int32).toInt - (0 : Int32).toInt).toNat + 1) r_this_processor_storage_bytes 0 _ _ _ (Nat.lt_succ_self _)  hP hD hS (lv_sub hl [0, 1, 2, 3, 4] rfl) hF
      · have c_4 : ¬ (f_X6_holds p1 p3) = true := by rw [(bI_eq0 _).mp c_4]; decide
        rw [if_neg c_4] at hF
        refine lv_iconst (v := 0) hx hb dX7_load_22 (by decide) ?_
        exact hQ false (false, r_this_processor_storage_bytes) _ _ _ _ dX7_load_23 ⟨hF.symm, rfl⟩ hP hD hS
theorem cv_X7_load : qV yX7_load cX7_load 6 (some .boolean) 3 := ⟨kc_X7_load, kt_X7_load, ks_X7_load, kn_X7, by decide, by decide +kernel⟩
def f_X7_word (r_this_processor_storage_bytes : Nat → Int32) (p1 : Int32) : Int32 := (f_X6_wordAt r_this_processor_storage_bytes p1)
set_option linter.all false in
set_option maxHeartbeats 4000000 in
set_option maxRecDepth 100000 in
theorem c_X7_word (l : Launch) (D : va_G) (a_this a_this_processor a_this_processor_storage a_this_processor_storage_bytes a_this_processor_status a_this_processor_channel a_this_processor_registers a_this_processor_first a_this_processor_second a_this_processor_storage_keys : Nat) (k_this_processor_storage_bytes : ClassId) (o_this_processor : Bool × Int32 × Int32 × Int32 × Int32 × Int32 × Int32 × Int32 × Int32 × Int32) (r_this_processor_storage_bytes : Nat → Int32) (p1 : Int32) : CtI l yX7_word cX7_word 2 (some .int) { frames := 2, cells := 0, slots := 0, locals := 44 } D [.ref a_this, .int p1] [(a_this, oX7 a_this_processor), (a_this_processor, oX3 a_this_processor_storage a_this_processor_status a_this_processor_channel a_this_processor_registers a_this_processor_first a_this_processor_second o_this_processor), (a_this_processor_storage, oX6 a_this_processor_storage_bytes a_this_processor_storage_keys), (a_this_processor_storage_bytes, .inl (k_this_processor_storage_bytes, 2048, .inl r_this_processor_storage_bytes))] [(k_this_processor_storage_bytes, .byte)] (fun (r : Int32) (u : Int32) => f_X7_word r_this_processor_storage_bytes p1 = u ∧ r = u) (fun u => [(a_this, oX7 a_this_processor), (a_this_processor, oX3 a_this_processor_storage a_this_processor_status a_this_processor_channel a_this_processor_registers a_this_processor_first a_this_processor_second o_this_processor), (a_this_processor_storage, oX6 a_this_processor_storage_bytes a_this_processor_storage_keys), (a_this_processor_storage_bytes, .inl (k_this_processor_storage_bytes, 2048, .inl r_this_processor_storage_bytes))]) := by
  refine CtI.of (by decide) (Nat.le_of_ble_eq_true rfl) ?_
  intro p e s m below meth c A ls Q hE hP hD hS hl hQ
  obtain ⟨hx, hb, hml, hown, ht, hN, hK, hA⟩ := hE
  have hown : s.vm.findClass RX7 = some m.cls := hown
  have hl : lv_has ls 2 [(0, .ref a_this), (1, .int p1)] := hl
  obtain ⟨F, hF⟩ : ∃ F, f_X7_word r_this_processor_storage_bytes p1 = F := ⟨_, rfl⟩
  rw [hF] at hQ
  unfold f_X7_word at hF
  refine lv_aload_n hx hb dX7_word_0 rfl (lv_at hl 0 rfl) ?_
  refine gf_X7_10 (v := .ref a_this_processor) hx hb hown ht hK hP 0 rfl rfl dX7_word_1 ?_
  refine gf_X7_22 (v := .ref a_this_processor_storage) hx hb hown ht hK hP 1 rfl rfl dX7_word_4 ?_
  refine lv_iload_n hx hb dX7_word_7 rfl (lv_at hl 1 rfl) ?_
  refine q_Vi (rest := []) (c_X6_wordAt l D a_this_processor_storage a_this_processor_storage_bytes a_this_processor_storage_keys k_this_processor_storage_bytes r_this_processor_storage_bytes p1) cv_X6_wordAt hx hb hml hown ht hN hK hA hP hD hS hl.1 (km_X7_34) ⟨Nat.le_of_ble_eq_true rfl, Nat.le_of_ble_eq_true rfl⟩ rfl rfl [2, 3] (by decide) rfl [0] rfl (fun _ => rfl) (ci := 6) rfl rfl rfl rfl rfl (Nat.le_of_ble_eq_true rfl) dX7_word_8 ⟨Nat.zero_le _, Nat.zero_le _⟩ (fun r u H locs hw hP hD hS => ?_)
  obtain ⟨rfl, rfl⟩ := hw
  have hP : va_P D vwCl [(a_this, oX7 a_this_processor), (a_this_processor, oX3 a_this_processor_storage a_this_processor_status a_this_processor_channel a_this_processor_registers a_this_processor_first a_this_processor_second o_this_processor), (a_this_processor_storage, oX6 a_this_processor_storage_bytes a_this_processor_storage_keys), (a_this_processor_storage_bytes, .inl (k_this_processor_storage_bytes, 2048, .inl r_this_processor_storage_bytes))] H := hP
  have hD : va_D A [(a_this, oX7 a_this_processor), (a_this_processor, oX3 a_this_processor_storage a_this_processor_status a_this_processor_channel a_this_processor_registers a_this_processor_first a_this_processor_second o_this_processor), (a_this_processor_storage, oX6 a_this_processor_storage_bytes a_this_processor_storage_keys), (a_this_processor_storage_bytes, .inl (k_this_processor_storage_bytes, 2048, .inl r_this_processor_storage_bytes))] := hD
  exact hQ (f_X6_wordAt r_this_processor_storage_bytes p1) (f_X6_wordAt r_this_processor_storage_bytes p1) _ _ _ _ dX7_word_11 ⟨hF.symm, rfl⟩ hP hD hS
theorem cv_X7_word : qV yX7_word cX7_word 2 (some .int) 1 := ⟨kc_X7_word, kt_X7_word, ks_X7_word, kn_X7, by decide, by decide +kernel⟩
def f_X7_set (r_this_processor_registers : Nat → Int32) (o_this_processor_status : Int32 × Int32 × Int32 × Int32) (r_this_processor_storage_keys : Nat → Int32) (p1 : Int32) (p2 : Int32) : Bool × (Nat → Int32) × (Int32 × Int32 × Int32 × Int32) × (Nat → Int32) := (if p1 < 0 then (false, r_this_processor_registers, o_this_processor_status, r_this_processor_storage_keys) else (if p1 < (28 : Int32) then (if (16 : Int32) ≤ p1 then (if p1 < (20 : Int32) then (q_let (f_X5_putPart o_this_processor_status p1 p2) fun w_5 => (true, r_this_processor_registers, w_5, r_this_processor_storage_keys)) else (q_let (f_X6_putKey r_this_processor_storage_keys (p1 - (20 : Int32)) p2) fun w_6 => (true, r_this_processor_registers, o_this_processor_status, w_6))) else (q_let (f_X3_putRegister r_this_processor_registers p1 p2) fun w_7 => (true, w_7, o_this_processor_status, r_this_processor_storage_keys))) else (false, r_this_processor_registers, o_this_processor_status, r_this_processor_storage_keys)))
set_option linter.all false in
set_option maxHeartbeats 4000000 in
set_option maxRecDepth 100000 in
theorem c_X7_set (l : Launch) (D : va_G) (a_this a_this_processor a_this_processor_registers a_this_processor_status a_this_processor_storage a_this_processor_storage_keys a_this_processor_channel a_this_processor_first a_this_processor_second a_this_processor_storage_bytes : Nat) (k_this_processor_registers k_this_processor_storage_keys : ClassId) (o_this_processor : Bool × Int32 × Int32 × Int32 × Int32 × Int32 × Int32 × Int32 × Int32 × Int32) (r_this_processor_registers : Nat → Int32) (o_this_processor_status : Int32 × Int32 × Int32 × Int32) (r_this_processor_storage_keys : Nat → Int32) (p1 : Int32) (p2 : Int32) : CtI l yX7_set cX7_set 3 (some .boolean) { frames := 2, cells := 0, slots := 0, locals := 43 } D [.ref a_this, .int p1, .int p2] [(a_this, oX7 a_this_processor), (a_this_processor, oX3 a_this_processor_storage a_this_processor_status a_this_processor_channel a_this_processor_registers a_this_processor_first a_this_processor_second o_this_processor), (a_this_processor_registers, .inl (k_this_processor_registers, 16, .inl r_this_processor_registers)), (a_this_processor_status, oX5 o_this_processor_status), (a_this_processor_storage, oX6 a_this_processor_storage_bytes a_this_processor_storage_keys), (a_this_processor_storage_keys, .inl (k_this_processor_storage_keys, 8, .inl r_this_processor_storage_keys))] [(k_this_processor_registers, .int), (k_this_processor_storage_keys, .int)] (fun (r : Int32) (u : Bool × (Nat → Int32) × (Int32 × Int32 × Int32 × Int32) × (Nat → Int32)) => f_X7_set r_this_processor_registers o_this_processor_status r_this_processor_storage_keys p1 p2 = u ∧ r = bI u.1) (fun u => [(a_this, oX7 a_this_processor), (a_this_processor, oX3 a_this_processor_storage a_this_processor_status a_this_processor_channel a_this_processor_registers a_this_processor_first a_this_processor_second o_this_processor), (a_this_processor_registers, .inl (k_this_processor_registers, 16, .inl u.2.1)), (a_this_processor_status, oX5 u.2.2.1), (a_this_processor_storage, oX6 a_this_processor_storage_bytes a_this_processor_storage_keys), (a_this_processor_storage_keys, .inl (k_this_processor_storage_keys, 8, .inl u.2.2.2))]) := by
  refine CtI.ofZ (by decide) (Nat.le_of_ble_eq_true rfl) ?_
  intro p e s m below meth c A ls Q hE hP hD hS hl hQ
  obtain ⟨hx, hb, hml, hown, ht, hN, hK, hA⟩ := hE
  have hown : s.vm.findClass RX7 = some m.cls := hown
  have hl : lv_has ls 3 [(0, .ref a_this), (1, .int p1), (2, .int p2)] := hl
  obtain ⟨F, hF⟩ : ∃ F, f_X7_set r_this_processor_registers o_this_processor_status r_this_processor_storage_keys p1 p2 = F := ⟨_, rfl⟩
  rw [hF] at hQ
  unfold f_X7_set at hF
  refine lv_iload_n hx hb dX7_set_0 rfl (lv_at hl 1 rfl) ?_
  refine lv_if_lt (tgt := 10) hx hb dX7_set_1 (by decide) (fun c_1 => ?_) (fun c_1 => ?_)
  · skip
    rw [if_pos c_1] at hF
    refine lv_iconst (v := 0) hx hb dX7_set_10 (by decide) ?_
    exact hQ false (false, r_this_processor_registers, o_this_processor_status, r_this_processor_storage_keys) _ _ _ _ dX7_set_11 ⟨hF.symm, rfl⟩ hP hD hS
  · skip
    rw [if_neg c_1] at hF
    refine lv_iload_n hx hb dX7_set_4 rfl (lv_at hl 1 rfl) ?_
    refine lv_bipush (v := 28) hx hb dX7_set_5 (by decide) ?_
    refine lv_icmp_lt (tgt := 12) hx hb dX7_set_7 (by decide) (fun c_2 => ?_) (fun c_2 => ?_)
    · skip
      rw [if_pos c_2] at hF
      refine lv_iload_n hx hb dX7_set_12 rfl (lv_at hl 1 rfl) ?_
      refine lv_bipush (v := 16) hx hb dX7_set_13 (by decide) ?_
      refine lv_icmp_ge (tgt := 30) hx hb dX7_set_15 (by decide) (fun c_3 => ?_) (fun c_3 => ?_)
      · skip
        rw [if_pos c_3] at hF
        refine lv_iload_n hx hb dX7_set_30 rfl (lv_at hl 1 rfl) ?_
        refine lv_bipush (v := 20) hx hb dX7_set_31 (by decide) ?_
        refine lv_icmp_lt (tgt := 54) hx hb dX7_set_33 (by decide) (fun c_4 => ?_) (fun c_4 => ?_)
        · skip
          rw [if_pos c_4] at hF
          refine lv_aload_n hx hb dX7_set_54 rfl (lv_at hl 0 rfl) ?_
          refine gf_X7_10 (v := .ref a_this_processor) hx hb hown ht hK hP 0 rfl rfl dX7_set_55 ?_
          refine gf_X7_44 (v := .ref a_this_processor_status) hx hb hown ht hK hP 1 rfl rfl dX7_set_58 ?_
          refine lv_iload_n hx hb dX7_set_61 rfl (lv_at hl 1 rfl) ?_
          refine lv_iload_n hx hb dX7_set_62 rfl (lv_at hl 2 rfl) ?_
          refine q_Vv (rest := []) (c_X5_putPart l D a_this_processor_status o_this_processor_status p1 p2) cv_X5_putPart hx hb hml hown ht hN hK hA hP hD hS hl.1 (km_X7_48) ⟨Nat.le_of_ble_eq_true rfl, Nat.le_of_ble_eq_true rfl⟩ rfl rfl [3] (by decide) rfl [] rfl (fun _ => rfl) (ci := 5) rfl rfl rfl rfl rfl (Nat.le_of_ble_eq_true rfl) dX7_set_63 ⟨Nat.zero_le _, Nat.zero_le _⟩ (fun w_5 H locs hw hP hD hS => ?_)
          have hP : va_P D vwCl [(a_this, oX7 a_this_processor), (a_this_processor, oX3 a_this_processor_storage a_this_processor_status a_this_processor_channel a_this_processor_registers a_this_processor_first a_this_processor_second o_this_processor), (a_this_processor_registers, .inl (k_this_processor_registers, 16, .inl r_this_processor_registers)), (a_this_processor_status, oX5 w_5), (a_this_processor_storage, oX6 a_this_processor_storage_bytes a_this_processor_storage_keys), (a_this_processor_storage_keys, .inl (k_this_processor_storage_keys, 8, .inl r_this_processor_storage_keys))] H := hP
          have hD : va_D A [(a_this, oX7 a_this_processor), (a_this_processor, oX3 a_this_processor_storage a_this_processor_status a_this_processor_channel a_this_processor_registers a_this_processor_first a_this_processor_second o_this_processor), (a_this_processor_registers, .inl (k_this_processor_registers, 16, .inl r_this_processor_registers)), (a_this_processor_status, oX5 w_5), (a_this_processor_storage, oX6 a_this_processor_storage_bytes a_this_processor_storage_keys), (a_this_processor_storage_keys, .inl (k_this_processor_storage_keys, 8, .inl r_this_processor_storage_keys))] := hD
          rw [q_let_of hw] at hF
          refine lv_iconst (v := 1) hx hb dX7_set_66 (by decide) ?_
          exact hQ true (true, r_this_processor_registers, w_5, r_this_processor_storage_keys) _ _ _ _ dX7_set_67 ⟨hF.symm, rfl⟩ hP hD hS
        · skip
          rw [if_neg c_4] at hF
          refine lv_aload_n hx hb dX7_set_36 rfl (lv_at hl 0 rfl) ?_
          refine gf_X7_10 (v := .ref a_this_processor) hx hb hown ht hK hP 0 rfl rfl dX7_set_37 ?_
          refine gf_X7_22 (v := .ref a_this_processor_storage) hx hb hown ht hK hP 1 rfl rfl dX7_set_40 ?_
          refine lv_iload_n hx hb dX7_set_43 rfl (lv_at hl 1 rfl) ?_
          refine lv_bipush (v := 20) hx hb dX7_set_44 (by decide) ?_
          refine lv_isub hx hb dX7_set_46 ?_
          refine lv_iload_n hx hb dX7_set_47 rfl (lv_at hl 2 rfl) ?_
          refine q_Vv (rest := []) (c_X6_putKey l D a_this_processor_storage a_this_processor_storage_keys a_this_processor_storage_bytes k_this_processor_storage_keys r_this_processor_storage_keys (p1 - (20 : Int32)) p2) cv_X6_putKey hx hb hml hown ht hN hK hA hP hD hS hl.1 (km_X7_41) ⟨Nat.le_of_ble_eq_true rfl, Nat.le_of_ble_eq_true rfl⟩ rfl rfl [4, 5] (by decide) rfl [1] rfl (fun _ => rfl) (ci := 6) rfl rfl rfl rfl rfl (Nat.le_of_ble_eq_true rfl) dX7_set_48 ⟨Nat.zero_le _, Nat.zero_le _⟩ (fun w_6 H locs hw hP hD hS => ?_)
          have hP : va_P D vwCl [(a_this, oX7 a_this_processor), (a_this_processor, oX3 a_this_processor_storage a_this_processor_status a_this_processor_channel a_this_processor_registers a_this_processor_first a_this_processor_second o_this_processor), (a_this_processor_registers, .inl (k_this_processor_registers, 16, .inl r_this_processor_registers)), (a_this_processor_status, oX5 o_this_processor_status), (a_this_processor_storage, oX6 a_this_processor_storage_bytes a_this_processor_storage_keys), (a_this_processor_storage_keys, .inl (k_this_processor_storage_keys, 8, .inl w_6))] H := hP
          have hD : va_D A [(a_this, oX7 a_this_processor), (a_this_processor, oX3 a_this_processor_storage a_this_processor_status a_this_processor_channel a_this_processor_registers a_this_processor_first a_this_processor_second o_this_processor), (a_this_processor_registers, .inl (k_this_processor_registers, 16, .inl r_this_processor_registers)), (a_this_processor_status, oX5 o_this_processor_status), (a_this_processor_storage, oX6 a_this_processor_storage_bytes a_this_processor_storage_keys), (a_this_processor_storage_keys, .inl (k_this_processor_storage_keys, 8, .inl w_6))] := hD
          rw [q_let_of hw] at hF
          refine lv_goto (tgt := 66) hx hb dX7_set_51 (by decide) ?_
          refine lv_iconst (v := 1) hx hb dX7_set_66 (by decide) ?_
          exact hQ true (true, r_this_processor_registers, o_this_processor_status, w_6) _ _ _ _ dX7_set_67 ⟨hF.symm, rfl⟩ hP hD hS
      · skip
        rw [if_neg c_3] at hF
        refine lv_aload_n hx hb dX7_set_18 rfl (lv_at hl 0 rfl) ?_
        refine gf_X7_10 (v := .ref a_this_processor) hx hb hown ht hK hP 0 rfl rfl dX7_set_19 ?_
        refine lv_iload_n hx hb dX7_set_22 rfl (lv_at hl 1 rfl) ?_
        refine lv_iload_n hx hb dX7_set_23 rfl (lv_at hl 2 rfl) ?_
        refine q_Vv (rest := []) (c_X3_putRegister l D a_this_processor a_this_processor_registers a_this_processor_storage a_this_processor_status a_this_processor_channel a_this_processor_first a_this_processor_second k_this_processor_registers o_this_processor r_this_processor_registers p1 p2) cv_X3_putRegister hx hb hml hown ht hN hK hA hP hD hS hl.1 (km_X7_38) ⟨Nat.le_of_ble_eq_true rfl, Nat.le_of_ble_eq_true rfl⟩ rfl rfl [1, 2] (by decide) rfl [0] rfl (fun _ => rfl) (ci := 3) rfl rfl rfl rfl rfl (Nat.le_of_ble_eq_true rfl) dX7_set_24 ⟨Nat.zero_le _, Nat.zero_le _⟩ (fun w_7 H locs hw hP hD hS => ?_)
        have hP : va_P D vwCl [(a_this, oX7 a_this_processor), (a_this_processor, oX3 a_this_processor_storage a_this_processor_status a_this_processor_channel a_this_processor_registers a_this_processor_first a_this_processor_second o_this_processor), (a_this_processor_registers, .inl (k_this_processor_registers, 16, .inl w_7)), (a_this_processor_status, oX5 o_this_processor_status), (a_this_processor_storage, oX6 a_this_processor_storage_bytes a_this_processor_storage_keys), (a_this_processor_storage_keys, .inl (k_this_processor_storage_keys, 8, .inl r_this_processor_storage_keys))] H := hP
        have hD : va_D A [(a_this, oX7 a_this_processor), (a_this_processor, oX3 a_this_processor_storage a_this_processor_status a_this_processor_channel a_this_processor_registers a_this_processor_first a_this_processor_second o_this_processor), (a_this_processor_registers, .inl (k_this_processor_registers, 16, .inl w_7)), (a_this_processor_status, oX5 o_this_processor_status), (a_this_processor_storage, oX6 a_this_processor_storage_bytes a_this_processor_storage_keys), (a_this_processor_storage_keys, .inl (k_this_processor_storage_keys, 8, .inl r_this_processor_storage_keys))] := hD
        rw [q_let_of hw] at hF
        refine lv_goto (tgt := 66) hx hb dX7_set_27 (by decide) ?_
        refine lv_iconst (v := 1) hx hb dX7_set_66 (by decide) ?_
        exact hQ true (true, w_7, o_this_processor_status, r_this_processor_storage_keys) _ _ _ _ dX7_set_67 ⟨hF.symm, rfl⟩ hP hD hS
    · skip
      rw [if_neg c_2] at hF
      refine lv_iconst (v := 0) hx hb dX7_set_10 (by decide) ?_
      exact hQ false (false, r_this_processor_registers, o_this_processor_status, r_this_processor_storage_keys) _ _ _ _ dX7_set_11 ⟨hF.symm, rfl⟩ hP hD hS
theorem cv_X7_set : qV yX7_set cX7_set 3 (some .boolean) 2 := ⟨kc_X7_set, kt_X7_set, ks_X7_set, kn_X7, by decide, by decide +kernel⟩
def f_X7_get (r_this_processor_registers : Nat → Int32) (o_this_processor_status : Int32 × Int32 × Int32 × Int32) (r_this_processor_storage_keys : Nat → Int32) (p1 : Int32) : Int32 := (if p1 < 0 then (-1) else (if p1 < (28 : Int32) then (if (16 : Int32) ≤ p1 then (if p1 < (20 : Int32) then (f_X5_part o_this_processor_status p1) else (f_X6_keyOfBlock r_this_processor_storage_keys (p1 - (20 : Int32)))) else (f_X3_register r_this_processor_registers p1)) else (-1)))
set_option linter.all false in
set_option maxHeartbeats 4000000 in
set_option maxRecDepth 100000 in
theorem c_X7_get (l : Launch) (D : va_G) (a_this a_this_processor a_this_processor_registers a_this_processor_status a_this_processor_storage a_this_processor_storage_keys a_this_processor_channel a_this_processor_first a_this_processor_second a_this_processor_storage_bytes : Nat) (k_this_processor_registers k_this_processor_storage_keys : ClassId) (o_this_processor : Bool × Int32 × Int32 × Int32 × Int32 × Int32 × Int32 × Int32 × Int32 × Int32) (r_this_processor_registers : Nat → Int32) (o_this_processor_status : Int32 × Int32 × Int32 × Int32) (r_this_processor_storage_keys : Nat → Int32) (p1 : Int32) : CtI l yX7_get cX7_get 2 (some .int) { frames := 1, cells := 0, slots := 0, locals := 21 } D [.ref a_this, .int p1] [(a_this, oX7 a_this_processor), (a_this_processor, oX3 a_this_processor_storage a_this_processor_status a_this_processor_channel a_this_processor_registers a_this_processor_first a_this_processor_second o_this_processor), (a_this_processor_registers, .inl (k_this_processor_registers, 16, .inl r_this_processor_registers)), (a_this_processor_status, oX5 o_this_processor_status), (a_this_processor_storage, oX6 a_this_processor_storage_bytes a_this_processor_storage_keys), (a_this_processor_storage_keys, .inl (k_this_processor_storage_keys, 8, .inl r_this_processor_storage_keys))] [(k_this_processor_registers, .int), (k_this_processor_storage_keys, .int)] (fun (r : Int32) (u : Int32) => f_X7_get r_this_processor_registers o_this_processor_status r_this_processor_storage_keys p1 = u ∧ r = u) (fun u => [(a_this, oX7 a_this_processor), (a_this_processor, oX3 a_this_processor_storage a_this_processor_status a_this_processor_channel a_this_processor_registers a_this_processor_first a_this_processor_second o_this_processor), (a_this_processor_registers, .inl (k_this_processor_registers, 16, .inl r_this_processor_registers)), (a_this_processor_status, oX5 o_this_processor_status), (a_this_processor_storage, oX6 a_this_processor_storage_bytes a_this_processor_storage_keys), (a_this_processor_storage_keys, .inl (k_this_processor_storage_keys, 8, .inl r_this_processor_storage_keys))]) := by
  refine CtI.of (by decide) (Nat.le_of_ble_eq_true rfl) ?_
  intro p e s m below meth c A ls Q hE hP hD hS hl hQ
  obtain ⟨hx, hb, hml, hown, ht, hN, hK, hA⟩ := hE
  have hown : s.vm.findClass RX7 = some m.cls := hown
  have hl : lv_has ls 2 [(0, .ref a_this), (1, .int p1)] := hl
  obtain ⟨F, hF⟩ : ∃ F, f_X7_get r_this_processor_registers o_this_processor_status r_this_processor_storage_keys p1 = F := ⟨_, rfl⟩
  rw [hF] at hQ
  unfold f_X7_get at hF
  refine lv_iload_n hx hb dX7_get_0 rfl (lv_at hl 1 rfl) ?_
  refine lv_if_lt (tgt := 10) hx hb dX7_get_1 (by decide) (fun c_1 => ?_) (fun c_1 => ?_)
  · skip
    rw [if_pos c_1] at hF
    refine lv_iconst (v := (-1)) hx hb dX7_get_10 (by decide) ?_
    exact hQ (-1) (-1) _ _ _ _ dX7_get_11 ⟨hF.symm, rfl⟩ hP hD hS
  · skip
    rw [if_neg c_1] at hF
    refine lv_iload_n hx hb dX7_get_4 rfl (lv_at hl 1 rfl) ?_
    refine lv_bipush (v := 28) hx hb dX7_get_5 (by decide) ?_
    refine lv_icmp_lt (tgt := 12) hx hb dX7_get_7 (by decide) (fun c_2 => ?_) (fun c_2 => ?_)
    · skip
      rw [if_pos c_2] at hF
      refine lv_iload_n hx hb dX7_get_12 rfl (lv_at hl 1 rfl) ?_
      refine lv_bipush (v := 16) hx hb dX7_get_13 (by decide) ?_
      refine lv_icmp_ge (tgt := 27) hx hb dX7_get_15 (by decide) (fun c_3 => ?_) (fun c_3 => ?_)
      · skip
        rw [if_pos c_3] at hF
        refine lv_iload_n hx hb dX7_get_27 rfl (lv_at hl 1 rfl) ?_
        refine lv_bipush (v := 20) hx hb dX7_get_28 (by decide) ?_
        refine lv_icmp_lt (tgt := 48) hx hb dX7_get_30 (by decide) (fun c_4 => ?_) (fun c_4 => ?_)
        · skip
          rw [if_pos c_4] at hF
          refine lv_aload_n hx hb dX7_get_48 rfl (lv_at hl 0 rfl) ?_
          refine gf_X7_10 (v := .ref a_this_processor) hx hb hown ht hK hP 0 rfl rfl dX7_get_49 ?_
          refine gf_X7_44 (v := .ref a_this_processor_status) hx hb hown ht hK hP 1 rfl rfl dX7_get_52 ?_
          refine lv_iload_n hx hb dX7_get_55 rfl (lv_at hl 1 rfl) ?_
          refine q_Vi (rest := []) (c_X5_part l D a_this_processor_status o_this_processor_status p1) cv_X5_part hx hb hml hown ht hN hK hA hP hD hS hl.1 (km_X7_59) ⟨Nat.le_of_ble_eq_true rfl, Nat.le_of_ble_eq_true rfl⟩ rfl rfl [3] (by decide) rfl [] rfl (fun _ => rfl) (ci := 5) rfl rfl rfl rfl rfl (Nat.le_of_ble_eq_true rfl) dX7_get_56 ⟨Nat.zero_le _, Nat.zero_le _⟩ (fun r u H locs hw hP hD hS => ?_)
          obtain ⟨rfl, rfl⟩ := hw
          have hP : va_P D vwCl [(a_this, oX7 a_this_processor), (a_this_processor, oX3 a_this_processor_storage a_this_processor_status a_this_processor_channel a_this_processor_registers a_this_processor_first a_this_processor_second o_this_processor), (a_this_processor_registers, .inl (k_this_processor_registers, 16, .inl r_this_processor_registers)), (a_this_processor_status, oX5 o_this_processor_status), (a_this_processor_storage, oX6 a_this_processor_storage_bytes a_this_processor_storage_keys), (a_this_processor_storage_keys, .inl (k_this_processor_storage_keys, 8, .inl r_this_processor_storage_keys))] H := hP
          have hD : va_D A [(a_this, oX7 a_this_processor), (a_this_processor, oX3 a_this_processor_storage a_this_processor_status a_this_processor_channel a_this_processor_registers a_this_processor_first a_this_processor_second o_this_processor), (a_this_processor_registers, .inl (k_this_processor_registers, 16, .inl r_this_processor_registers)), (a_this_processor_status, oX5 o_this_processor_status), (a_this_processor_storage, oX6 a_this_processor_storage_bytes a_this_processor_storage_keys), (a_this_processor_storage_keys, .inl (k_this_processor_storage_keys, 8, .inl r_this_processor_storage_keys))] := hD
          exact hQ (f_X5_part o_this_processor_status p1) (f_X5_part o_this_processor_status p1) _ _ _ _ dX7_get_59 ⟨hF.symm, rfl⟩ hP hD hS
        · skip
          rw [if_neg c_4] at hF
          refine lv_aload_n hx hb dX7_get_33 rfl (lv_at hl 0 rfl) ?_
          refine gf_X7_10 (v := .ref a_this_processor) hx hb hown ht hK hP 0 rfl rfl dX7_get_34 ?_
          refine gf_X7_22 (v := .ref a_this_processor_storage) hx hb hown ht hK hP 1 rfl rfl dX7_get_37 ?_
          refine lv_iload_n hx hb dX7_get_40 rfl (lv_at hl 1 rfl) ?_
          refine lv_bipush (v := 20) hx hb dX7_get_41 (by decide) ?_
          refine lv_isub hx hb dX7_get_43 ?_
          refine q_Vi (rest := []) (c_X6_keyOfBlock l D a_this_processor_storage a_this_processor_storage_keys a_this_processor_storage_bytes k_this_processor_storage_keys r_this_processor_storage_keys (p1 - (20 : Int32))) cv_X6_keyOfBlock hx hb hml hown ht hN hK hA hP hD hS hl.1 (km_X7_56) ⟨Nat.le_of_ble_eq_true rfl, Nat.le_of_ble_eq_true rfl⟩ rfl rfl [4, 5] (by decide) rfl [1] rfl (fun _ => rfl) (ci := 6) rfl rfl rfl rfl rfl (Nat.le_of_ble_eq_true rfl) dX7_get_44 ⟨Nat.zero_le _, Nat.zero_le _⟩ (fun r u H locs hw hP hD hS => ?_)
          obtain ⟨rfl, rfl⟩ := hw
          have hP : va_P D vwCl [(a_this, oX7 a_this_processor), (a_this_processor, oX3 a_this_processor_storage a_this_processor_status a_this_processor_channel a_this_processor_registers a_this_processor_first a_this_processor_second o_this_processor), (a_this_processor_registers, .inl (k_this_processor_registers, 16, .inl r_this_processor_registers)), (a_this_processor_status, oX5 o_this_processor_status), (a_this_processor_storage, oX6 a_this_processor_storage_bytes a_this_processor_storage_keys), (a_this_processor_storage_keys, .inl (k_this_processor_storage_keys, 8, .inl r_this_processor_storage_keys))] H := hP
          have hD : va_D A [(a_this, oX7 a_this_processor), (a_this_processor, oX3 a_this_processor_storage a_this_processor_status a_this_processor_channel a_this_processor_registers a_this_processor_first a_this_processor_second o_this_processor), (a_this_processor_registers, .inl (k_this_processor_registers, 16, .inl r_this_processor_registers)), (a_this_processor_status, oX5 o_this_processor_status), (a_this_processor_storage, oX6 a_this_processor_storage_bytes a_this_processor_storage_keys), (a_this_processor_storage_keys, .inl (k_this_processor_storage_keys, 8, .inl r_this_processor_storage_keys))] := hD
          exact hQ (f_X6_keyOfBlock r_this_processor_storage_keys (p1 - (20 : Int32))) (f_X6_keyOfBlock r_this_processor_storage_keys (p1 - (20 : Int32))) _ _ _ _ dX7_get_47 ⟨hF.symm, rfl⟩ hP hD hS
      · skip
        rw [if_neg c_3] at hF
        refine lv_aload_n hx hb dX7_get_18 rfl (lv_at hl 0 rfl) ?_
        refine gf_X7_10 (v := .ref a_this_processor) hx hb hown ht hK hP 0 rfl rfl dX7_get_19 ?_
        refine lv_iload_n hx hb dX7_get_22 rfl (lv_at hl 1 rfl) ?_
        refine q_Vi (rest := []) (c_X3_register l D a_this_processor a_this_processor_registers a_this_processor_storage a_this_processor_status a_this_processor_channel a_this_processor_first a_this_processor_second k_this_processor_registers o_this_processor r_this_processor_registers p1) cv_X3_register hx hb hml hown ht hN hK hA hP hD hS hl.1 (km_X7_53) ⟨Nat.le_of_ble_eq_true rfl, Nat.le_of_ble_eq_true rfl⟩ rfl rfl [1, 2] (by decide) rfl [0] rfl (fun _ => rfl) (ci := 3) rfl rfl rfl rfl rfl (Nat.le_of_ble_eq_true rfl) dX7_get_23 ⟨Nat.zero_le _, Nat.zero_le _⟩ (fun r u H locs hw hP hD hS => ?_)
        obtain ⟨rfl, rfl⟩ := hw
        have hP : va_P D vwCl [(a_this, oX7 a_this_processor), (a_this_processor, oX3 a_this_processor_storage a_this_processor_status a_this_processor_channel a_this_processor_registers a_this_processor_first a_this_processor_second o_this_processor), (a_this_processor_registers, .inl (k_this_processor_registers, 16, .inl r_this_processor_registers)), (a_this_processor_status, oX5 o_this_processor_status), (a_this_processor_storage, oX6 a_this_processor_storage_bytes a_this_processor_storage_keys), (a_this_processor_storage_keys, .inl (k_this_processor_storage_keys, 8, .inl r_this_processor_storage_keys))] H := hP
        have hD : va_D A [(a_this, oX7 a_this_processor), (a_this_processor, oX3 a_this_processor_storage a_this_processor_status a_this_processor_channel a_this_processor_registers a_this_processor_first a_this_processor_second o_this_processor), (a_this_processor_registers, .inl (k_this_processor_registers, 16, .inl r_this_processor_registers)), (a_this_processor_status, oX5 o_this_processor_status), (a_this_processor_storage, oX6 a_this_processor_storage_bytes a_this_processor_storage_keys), (a_this_processor_storage_keys, .inl (k_this_processor_storage_keys, 8, .inl r_this_processor_storage_keys))] := hD
        exact hQ (f_X3_register r_this_processor_registers p1) (f_X3_register r_this_processor_registers p1) _ _ _ _ dX7_get_26 ⟨hF.symm, rfl⟩ hP hD hS
    · skip
      rw [if_neg c_2] at hF
      refine lv_iconst (v := (-1)) hx hb dX7_get_10 (by decide) ?_
      exact hQ (-1) (-1) _ _ _ _ dX7_get_11 ⟨hF.symm, rfl⟩ hP hD hS
theorem cv_X7_get : qV yX7_get cX7_get 2 (some .int) 1 := ⟨kc_X7_get, kt_X7_get, ks_X7_get, kn_X7, by decide, by decide +kernel⟩
def f_X7_punch_L39 (p1 : Int64) : Nat → (Int32 × Int32 × Int32 × Int32 × Int32) → (Nat → Int32) → Int32 → Bool × (Int32 × Int32 × Int32 × Int32 × Int32) × (Nat → Int32)
  | 0, o_this_processor_channel_reader_L39, r_this_processor_channel_reader_making_L39, x5 => (false, o_this_processor_channel_reader_L39, r_this_processor_channel_reader_making_L39)
  | fuel + 1, o_this_processor_channel_reader_L39, r_this_processor_channel_reader_making_L39, x5 => (if x5 < 0 then (true, o_this_processor_channel_reader_L39, r_this_processor_channel_reader_making_L39) else (q_let (f_X4_append o_this_processor_channel_reader_L39 r_this_processor_channel_reader_making_L39 (f_X7_byteOf p1 x5)) fun w_8 => f_X7_punch_L39 p1 fuel w_8.1 w_8.2 (x5 + ((-1) : Int32))))
def f_X7_punch (o_this_processor_channel_reader : Int32 × Int32 × Int32 × Int32 × Int32) (r_this_processor_channel_reader_making : Nat → Int32) (p1 : Int64) (p2 : Int32) : Bool × (Int32 × Int32 × Int32 × Int32 × Int32) × (Nat → Int32) := (if p2 < (1 : Int32) then (false, o_this_processor_channel_reader, r_this_processor_channel_reader_making) else (if (8 : Int32) < p2 then (false, o_this_processor_channel_reader, r_this_processor_channel_reader_making) else (if (f_X4_hasRoomFor o_this_processor_channel_reader p2) = true then f_X7_punch_L39 p1 ((((p2 - (1 : Int32)) : Int32).toInt + 1).toNat + 1) o_this_processor_channel_reader r_this_processor_channel_reader_making (p2 - (1 : Int32)) else (false, o_this_processor_channel_reader, r_this_processor_channel_reader_making))))
set_option linter.all false in
set_option maxHeartbeats 4000000 in
set_option maxRecDepth 100000 in
theorem c_X7_punch (l : Launch) (D : va_G) (a_this a_this_processor a_this_processor_channel a_this_processor_channel_reader a_this_processor_channel_reader_making a_this_processor_storage a_this_processor_status a_this_processor_registers a_this_processor_first a_this_processor_second a_this_processor_channel_printer a_this_processor_channel_reader_queue a_this_processor_channel_reader_lengths a_this_processor_channel_reader_record : Nat) (k_this_processor_channel_reader_making : ClassId) (o_this_processor : Bool × Int32 × Int32 × Int32 × Int32 × Int32 × Int32 × Int32 × Int32 × Int32) (o_this_processor_channel : Bool × Bool × Int32 × Int32 × Int32 × Bool × Bool × Bool × Int32 × Int32 × Int32 × Int32 × Int32) (o_this_processor_channel_reader : Int32 × Int32 × Int32 × Int32 × Int32) (r_this_processor_channel_reader_making : Nat → Int32) (p1 : Int64) (p2 : Int32) : CtI l yX7_punch cX7_punch 6 (some .boolean) { frames := 1, cells := 0, slots := 0, locals := 22 } D [.ref a_this, .long p1, .int p2] [(a_this, oX7 a_this_processor), (a_this_processor, oX3 a_this_processor_storage a_this_processor_status a_this_processor_channel a_this_processor_registers a_this_processor_first a_this_processor_second o_this_processor), (a_this_processor_channel, oX0 a_this_processor_channel_reader a_this_processor_channel_printer o_this_processor_channel), (a_this_processor_channel_reader, oX4 a_this_processor_channel_reader_making a_this_processor_channel_reader_queue a_this_processor_channel_reader_lengths a_this_processor_channel_reader_record o_this_processor_channel_reader), (a_this_processor_channel_reader_making, .inl (k_this_processor_channel_reader_making, 16, .inl r_this_processor_channel_reader_making))] [(k_this_processor_channel_reader_making, .byte)] (fun (r : Int32) (u : Bool × (Int32 × Int32 × Int32 × Int32 × Int32) × (Nat → Int32)) => f_X7_punch o_this_processor_channel_reader r_this_processor_channel_reader_making p1 p2 = u ∧ r = bI u.1) (fun u => [(a_this, oX7 a_this_processor), (a_this_processor, oX3 a_this_processor_storage a_this_processor_status a_this_processor_channel a_this_processor_registers a_this_processor_first a_this_processor_second o_this_processor), (a_this_processor_channel, oX0 a_this_processor_channel_reader a_this_processor_channel_printer o_this_processor_channel), (a_this_processor_channel_reader, oX4 a_this_processor_channel_reader_making a_this_processor_channel_reader_queue a_this_processor_channel_reader_lengths a_this_processor_channel_reader_record u.2.1), (a_this_processor_channel_reader_making, .inl (k_this_processor_channel_reader_making, 16, .inl u.2.2))]) := by
  refine CtI.ofZ (by decide) (Nat.le_of_ble_eq_true rfl) ?_
  intro p e s m below meth c A ls Q hE hP hD hS hl hQ
  obtain ⟨hx, hb, hml, hown, ht, hN, hK, hA⟩ := hE
  have hown : s.vm.findClass RX7 = some m.cls := hown
  have hl : lv_has ls 6 [(0, .ref a_this), (1, .long p1), (3, .int p2)] := hl
  obtain ⟨F, hF⟩ : ∃ F, f_X7_punch o_this_processor_channel_reader r_this_processor_channel_reader_making p1 p2 = F := ⟨_, rfl⟩
  rw [hF] at hQ
  unfold f_X7_punch at hF
  refine lv_aload_n hx hb dX7_punch_0 rfl (lv_at hl 0 rfl) ?_
  refine gf_X7_10 (v := .ref a_this_processor) hx hb hown ht hK hP 0 rfl rfl dX7_punch_1 ?_
  refine gf_X7_62 (v := .ref a_this_processor_channel) hx hb hown ht hK hP 1 rfl rfl dX7_punch_4 ?_
  refine gf_X7_66 (v := .ref a_this_processor_channel_reader) hx hb hown ht hK hP 2 rfl rfl dX7_punch_7 ?_
  refine lv_astore (lv' := [(4, .ref a_this_processor_channel_reader), (0, .ref a_this), (1, .long p1), (3, .int p2)]) hx hb dX7_punch_10 hl (by decide) rfl (fun ls hl => ?_)
  refine lv_iload_n hx hb dX7_punch_12 rfl (lv_at hl 3 rfl) ?_
  refine lv_iconst (v := 1) hx hb dX7_punch_13 (by decide) ?_
  refine lv_icmp_lt (tgt := 32) hx hb dX7_punch_14 (by decide) (fun c_1 => ?_) (fun c_1 => ?_)
  · skip
    rw [if_pos c_1] at hF
    refine lv_iconst (v := 0) hx hb dX7_punch_32 (by decide) ?_
    exact hQ false (false, o_this_processor_channel_reader, r_this_processor_channel_reader_making) _ _ _ _ dX7_punch_33 ⟨hF.symm, rfl⟩ hP hD hS
  · skip
    rw [if_neg c_1] at hF
    refine lv_iload_n hx hb dX7_punch_17 rfl (lv_at hl 3 rfl) ?_
    refine lv_bipush (v := 8) hx hb dX7_punch_18 (by decide) ?_
    refine lv_icmp_gt (tgt := 32) hx hb dX7_punch_20 (by decide) (fun c_2 => ?_) (fun c_2 => ?_)
    · skip
      rw [if_pos c_2] at hF
      refine lv_iconst (v := 0) hx hb dX7_punch_32 (by decide) ?_
      exact hQ false (false, o_this_processor_channel_reader, r_this_processor_channel_reader_making) _ _ _ _ dX7_punch_33 ⟨hF.symm, rfl⟩ hP hD hS
    · skip
      rw [if_neg c_2] at hF
      refine lv_aload hx hb dX7_punch_23 (lv_at hl 0 rfl) ?_
      refine lv_iload_n hx hb dX7_punch_25 rfl (lv_at hl 3 rfl) ?_
      refine q_Vi (rest := []) (c_X4_hasRoomFor l D a_this_processor_channel_reader a_this_processor_channel_reader_making a_this_processor_channel_reader_queue a_this_processor_channel_reader_lengths a_this_processor_channel_reader_record o_this_processor_channel_reader p2) cv_X4_hasRoomFor hx hb hml hown ht hN hK hA hP hD hS hl.1 (km_X7_72) ⟨Nat.le_of_ble_eq_true rfl, Nat.le_of_ble_eq_true rfl⟩ rfl rfl [3] (by decide) rfl [] rfl (fun _ => rfl) (ci := 4) rfl rfl rfl rfl rfl (Nat.le_of_ble_eq_true rfl) dX7_punch_26 ⟨Nat.zero_le _, Nat.zero_le _⟩ (fun r u H locs hw hP hD hS => ?_)
      obtain ⟨rfl, rfl⟩ := hw
      have hP : va_P D vwCl [(a_this, oX7 a_this_processor), (a_this_processor, oX3 a_this_processor_storage a_this_processor_status a_this_processor_channel a_this_processor_registers a_this_processor_first a_this_processor_second o_this_processor), (a_this_processor_channel, oX0 a_this_processor_channel_reader a_this_processor_channel_printer o_this_processor_channel), (a_this_processor_channel_reader, oX4 a_this_processor_channel_reader_making a_this_processor_channel_reader_queue a_this_processor_channel_reader_lengths a_this_processor_channel_reader_record o_this_processor_channel_reader), (a_this_processor_channel_reader_making, .inl (k_this_processor_channel_reader_making, 16, .inl r_this_processor_channel_reader_making))] H := hP
      have hD : va_D A [(a_this, oX7 a_this_processor), (a_this_processor, oX3 a_this_processor_storage a_this_processor_status a_this_processor_channel a_this_processor_registers a_this_processor_first a_this_processor_second o_this_processor), (a_this_processor_channel, oX0 a_this_processor_channel_reader a_this_processor_channel_printer o_this_processor_channel), (a_this_processor_channel_reader, oX4 a_this_processor_channel_reader_making a_this_processor_channel_reader_queue a_this_processor_channel_reader_lengths a_this_processor_channel_reader_record o_this_processor_channel_reader), (a_this_processor_channel_reader_making, .inl (k_this_processor_channel_reader_making, 16, .inl r_this_processor_channel_reader_making))] := hD
      refine lv_if_ne (tgt := 34) hx hb dX7_punch_29 (by decide) (fun c_4 => ?_) (fun c_4 => ?_)
      · have c_4 := (bI_ne0 _).mp c_4
        rw [if_pos c_4] at hF
        refine lv_iload_n hx hb dX7_punch_34 rfl (lv_at hl 3 rfl) ?_
        refine lv_iconst (v := 1) hx hb dX7_punch_35 (by decide) ?_
        refine lv_isub hx hb dX7_punch_36 ?_
        refine lv_istore (lv' := [(5, .int (p2 - (1 : Int32))), (4, .ref a_this_processor_channel_reader), (0, .ref a_this), (1, .long p1), (3, .int p2)]) hx hb dX7_punch_37 hl (by decide) rfl (fun ls hl => ?_)
        have L39 : ∀ (fuel : Nat) (o_this_processor_channel_reader_L39 : Int32 × Int32 × Int32 × Int32 × Int32) (r_this_processor_channel_reader_making_L39 : Nat → Int32) (x5 : Int32) (H : Heap) (locs : List Loc) (ls : Array Slot), ((x5 : Int32).toInt + 1).toNat < fuel → va_P D vwCl [(a_this, oX7 a_this_processor), (a_this_processor, oX3 a_this_processor_storage a_this_processor_status a_this_processor_channel a_this_processor_registers a_this_processor_first a_this_processor_second o_this_processor), (a_this_processor_channel, oX0 a_this_processor_channel_reader a_this_processor_channel_printer o_this_processor_channel), (a_this_processor_channel_reader, oX4 a_this_processor_channel_reader_making a_this_processor_channel_reader_queue a_this_processor_channel_reader_lengths a_this_processor_channel_reader_record o_this_processor_channel_reader_L39), (a_this_processor_channel_reader_making, .inl (k_this_processor_channel_reader_making, 16, .inl r_this_processor_channel_reader_making_L39))] H → va_D A [(a_this, oX7 a_this_processor), (a_this_processor, oX3 a_this_processor_storage a_this_processor_status a_this_processor_channel a_this_processor_registers a_this_processor_first a_this_processor_second o_this_processor), (a_this_processor_channel, oX0 a_this_processor_channel_reader a_this_processor_channel_printer o_this_processor_channel), (a_this_processor_channel_reader, oX4 a_this_processor_channel_reader_making a_this_processor_channel_reader_queue a_this_processor_channel_reader_lengths a_this_processor_channel_reader_record o_this_processor_channel_reader_L39), (a_this_processor_channel_reader_making, .inl (k_this_processor_channel_reader_making, 16, .inl r_this_processor_channel_reader_making_L39))] → va_S A s.heap H locs → lv_has ls 6 [(5, .int x5), (4, .ref a_this_processor_channel_reader), (0, .ref a_this), (1, .long p1), (3, .int p2)] → f_X7_punch_L39 p1 fuel o_this_processor_channel_reader_L39 r_this_processor_channel_reader_making_L39 x5 = F → W p l e ({ frames := 1, cells := 0, slots := 0, locals := 22 } : Room) s m ([.ref a_this, .long p1, .int p2] : List Value).toArray below meth c H locs 0 0 Q (F0 m 39 ls []) := by
          intro fuel
          induction fuel with
          | zero => intro o_this_processor_channel_reader_L39 r_this_processor_channel_reader_making_L39 x5 H locs ls hm; exact absurd hm (Nat.not_lt_zero _)
          | succ fuel ih =>
            intro o_this_processor_channel_reader_L39 r_this_processor_channel_reader_making_L39 x5 H locs ls hm  hP hD hS hl hF
            rw [f_X7_punch_L39] at hF
            skip
            refine lv_iload hx hb dX7_punch_39 (lv_at hl 0 rfl) ?_
            refine lv_if_lt (tgt := 61) hx hb dX7_punch_41 (by decide) (fun c_6 => ?_) (fun c_6 => ?_)
            · skip
              rw [if_pos c_6] at hF
              refine lv_iconst (v := 1) hx hb dX7_punch_61 (by decide) ?_
              exact hQ true (true, o_this_processor_channel_reader_L39, r_this_processor_channel_reader_making_L39) _ _ _ _ dX7_punch_62 ⟨hF.symm, rfl⟩ hP hD hS
            · skip
              rw [if_neg c_6] at hF
              refine lv_aload hx hb dX7_punch_44 (lv_at hl 1 rfl) ?_
              refine lv_lload_n hx hb dX7_punch_46 rfl (lv_at hl 3 rfl) ?_
              refine lv_iload hx hb dX7_punch_47 (lv_at hl 0 rfl) ?_
              refine q_Si (rest := [.ref a_this_processor_channel_reader]) (c_X7_byteOf l D p1 x5) cv_X7_byteOf hx hb hml hown ht hN hK hA hP hD hS hl.1 (km_X7_26) ⟨Nat.le_of_ble_eq_true rfl, Nat.le_of_ble_eq_true rfl⟩ rfl rfl [] (by decide) rfl [] rfl (fun _ => rfl) rfl rfl (Nat.le_of_ble_eq_true rfl) dX7_punch_49 ⟨Nat.zero_le _, Nat.zero_le _⟩ (fun r u H locs hw hP hD hS => ?_)
              obtain ⟨rfl, rfl⟩ := hw
              have hP : va_P D vwCl [(a_this, oX7 a_this_processor), (a_this_processor, oX3 a_this_processor_storage a_this_processor_status a_this_processor_channel a_this_processor_registers a_this_processor_first a_this_processor_second o_this_processor), (a_this_processor_channel, oX0 a_this_processor_channel_reader a_this_processor_channel_printer o_this_processor_channel), (a_this_processor_channel_reader, oX4 a_this_processor_channel_reader_making a_this_processor_channel_reader_queue a_this_processor_channel_reader_lengths a_this_processor_channel_reader_record o_this_processor_channel_reader_L39), (a_this_processor_channel_reader_making, .inl (k_this_processor_channel_reader_making, 16, .inl r_this_processor_channel_reader_making_L39))] H := hP
              have hD : va_D A [(a_this, oX7 a_this_processor), (a_this_processor, oX3 a_this_processor_storage a_this_processor_status a_this_processor_channel a_this_processor_registers a_this_processor_first a_this_processor_second o_this_processor), (a_this_processor_channel, oX0 a_this_processor_channel_reader a_this_processor_channel_printer o_this_processor_channel), (a_this_processor_channel_reader, oX4 a_this_processor_channel_reader_making a_this_processor_channel_reader_queue a_this_processor_channel_reader_lengths a_this_processor_channel_reader_record o_this_processor_channel_reader_L39), (a_this_processor_channel_reader_making, .inl (k_this_processor_channel_reader_making, 16, .inl r_this_processor_channel_reader_making_L39))] := hD
              refine q_Vv (rest := []) (c_X4_append l D a_this_processor_channel_reader a_this_processor_channel_reader_making a_this_processor_channel_reader_queue a_this_processor_channel_reader_lengths a_this_processor_channel_reader_record k_this_processor_channel_reader_making o_this_processor_channel_reader_L39 r_this_processor_channel_reader_making_L39 (f_X7_byteOf p1 x5)) cv_X4_append hx hb hml hown ht hN hK hA hP hD hS hl.1 (km_X7_78) ⟨Nat.le_of_ble_eq_true rfl, Nat.le_of_ble_eq_true rfl⟩ rfl rfl [3, 4] (by decide) rfl [0] rfl (fun _ => rfl) (ci := 4) rfl rfl rfl rfl rfl (Nat.le_of_ble_eq_true rfl) dX7_punch_52 ⟨Nat.zero_le _, Nat.zero_le _⟩ (fun w_8 H locs hw hP hD hS => ?_)
              have hP : va_P D vwCl [(a_this, oX7 a_this_processor), (a_this_processor, oX3 a_this_processor_storage a_this_processor_status a_this_processor_channel a_this_processor_registers a_this_processor_first a_this_processor_second o_this_processor), (a_this_processor_channel, oX0 a_this_processor_channel_reader a_this_processor_channel_printer o_this_processor_channel), (a_this_processor_channel_reader, oX4 a_this_processor_channel_reader_making a_this_processor_channel_reader_queue a_this_processor_channel_reader_lengths a_this_processor_channel_reader_record w_8.1), (a_this_processor_channel_reader_making, .inl (k_this_processor_channel_reader_making, 16, .inl w_8.2))] H := hP
              have hD : va_D A [(a_this, oX7 a_this_processor), (a_this_processor, oX3 a_this_processor_storage a_this_processor_status a_this_processor_channel a_this_processor_registers a_this_processor_first a_this_processor_second o_this_processor), (a_this_processor_channel, oX0 a_this_processor_channel_reader a_this_processor_channel_printer o_this_processor_channel), (a_this_processor_channel_reader, oX4 a_this_processor_channel_reader_making a_this_processor_channel_reader_queue a_this_processor_channel_reader_lengths a_this_processor_channel_reader_record w_8.1), (a_this_processor_channel_reader_making, .inl (k_this_processor_channel_reader_making, 16, .inl w_8.2))] := hD
              rw [q_let_of hw] at hF
              refine lv_iinc (v := (x5 + ((-1) : Int32))) (lv' := [(5, .int (x5 + ((-1) : Int32))), (4, .ref a_this_processor_channel_reader), (0, .ref a_this), (1, .long p1), (3, .int p2)]) hx hb dX7_punch_55 hl (k := 0) rfl rfl (by decide) rfl (fun ls hl => ?_)
              refine lv_goto (tgt := 39) hx hb dX7_punch_58 (by decide) ?_
              exact ih w_8.1 w_8.2 (x5 + ((-1) : Int32)) _ _ _ (by first | exact q_dn hm c_1 | exact q_dn hm c_2 | exact q_dn hm c_4 | exact q_dn hm c_6)  hP hD hS (lv_sub hl [0, 1, 2, 3, 4] rfl) hF
        exact L39 ((((p2 - (1 : Int32)) : Int32).toInt + 1).toNat + 1) o_this_processor_channel_reader r_this_processor_channel_reader_making (p2 - (1 : Int32)) _ _ _ (Nat.lt_succ_self _)  hP hD hS (lv_sub hl [0, 1, 2, 3, 4] rfl) hF
      · have c_4 : ¬ (f_X4_hasRoomFor o_this_processor_channel_reader p2) = true := by rw [(bI_eq0 _).mp c_4]; decide
        rw [if_neg c_4] at hF
        refine lv_iconst (v := 0) hx hb dX7_punch_32 (by decide) ?_
        exact hQ false (false, o_this_processor_channel_reader, r_this_processor_channel_reader_making) _ _ _ _ dX7_punch_33 ⟨hF.symm, rfl⟩ hP hD hS
theorem cv_X7_punch : qV yX7_punch cX7_punch 6 (some .boolean) 2 := ⟨kc_X7_punch, kt_X7_punch, ks_X7_punch, kn_X7, by decide, by decide +kernel⟩
def f_X7_card (o_this_processor_channel_reader : Int32 × Int32 × Int32 × Int32 × Int32) (r_this_processor_channel_reader_lengths : Nat → Int32) (r_this_processor_channel_reader_making : Nat → Int32) (r_this_processor_channel_reader_queue : Nat → Int32) : Bool × (Int32 × Int32 × Int32 × Int32 × Int32) × (Nat → Int32) × (Nat → Int32) := (q_let (f_X4_queueRecord o_this_processor_channel_reader r_this_processor_channel_reader_lengths r_this_processor_channel_reader_making r_this_processor_channel_reader_queue) fun w_1 => (w_1.1, w_1.2.1, w_1.2.2.1, w_1.2.2.2))
set_option linter.all false in
set_option maxHeartbeats 4000000 in
set_option maxRecDepth 100000 in
theorem c_X7_card (l : Launch) (D : va_G) (a_this a_this_processor a_this_processor_channel a_this_processor_channel_reader a_this_processor_channel_reader_lengths a_this_processor_channel_reader_making a_this_processor_channel_reader_queue a_this_processor_storage a_this_processor_status a_this_processor_registers a_this_processor_first a_this_processor_second a_this_processor_channel_printer a_this_processor_channel_reader_record : Nat) (k_this_processor_channel_reader_lengths k_this_processor_channel_reader_making k_this_processor_channel_reader_queue : ClassId) (o_this_processor : Bool × Int32 × Int32 × Int32 × Int32 × Int32 × Int32 × Int32 × Int32 × Int32) (o_this_processor_channel : Bool × Bool × Int32 × Int32 × Int32 × Bool × Bool × Bool × Int32 × Int32 × Int32 × Int32 × Int32) (o_this_processor_channel_reader : Int32 × Int32 × Int32 × Int32 × Int32) (r_this_processor_channel_reader_lengths : Nat → Int32) (r_this_processor_channel_reader_making : Nat → Int32) (r_this_processor_channel_reader_queue : Nat → Int32) (hfm : sb_Fit r_this_processor_channel_reader_making) : CtI l yX7_card cX7_card 1 (some .boolean) { frames := 2, cells := 0, slots := 0, locals := 61 } D [.ref a_this] [(a_this, oX7 a_this_processor), (a_this_processor, oX3 a_this_processor_storage a_this_processor_status a_this_processor_channel a_this_processor_registers a_this_processor_first a_this_processor_second o_this_processor), (a_this_processor_channel, oX0 a_this_processor_channel_reader a_this_processor_channel_printer o_this_processor_channel), (a_this_processor_channel_reader, oX4 a_this_processor_channel_reader_making a_this_processor_channel_reader_queue a_this_processor_channel_reader_lengths a_this_processor_channel_reader_record o_this_processor_channel_reader), (a_this_processor_channel_reader_lengths, .inl (k_this_processor_channel_reader_lengths, 8, .inl r_this_processor_channel_reader_lengths)), (a_this_processor_channel_reader_making, .inl (k_this_processor_channel_reader_making, 16, .inl r_this_processor_channel_reader_making)), (a_this_processor_channel_reader_queue, .inl (k_this_processor_channel_reader_queue, 128, .inl r_this_processor_channel_reader_queue))] [(k_this_processor_channel_reader_lengths, .int), (k_this_processor_channel_reader_making, .byte), (k_this_processor_channel_reader_queue, .byte)] (fun (r : Int32) (u : Bool × (Int32 × Int32 × Int32 × Int32 × Int32) × (Nat → Int32) × (Nat → Int32)) => f_X7_card o_this_processor_channel_reader r_this_processor_channel_reader_lengths r_this_processor_channel_reader_making r_this_processor_channel_reader_queue = u ∧ r = bI u.1) (fun u => [(a_this, oX7 a_this_processor), (a_this_processor, oX3 a_this_processor_storage a_this_processor_status a_this_processor_channel a_this_processor_registers a_this_processor_first a_this_processor_second o_this_processor), (a_this_processor_channel, oX0 a_this_processor_channel_reader a_this_processor_channel_printer o_this_processor_channel), (a_this_processor_channel_reader, oX4 a_this_processor_channel_reader_making a_this_processor_channel_reader_queue a_this_processor_channel_reader_lengths a_this_processor_channel_reader_record u.2.1), (a_this_processor_channel_reader_lengths, .inl (k_this_processor_channel_reader_lengths, 8, .inl u.2.2.1)), (a_this_processor_channel_reader_making, .inl (k_this_processor_channel_reader_making, 16, .inl r_this_processor_channel_reader_making)), (a_this_processor_channel_reader_queue, .inl (k_this_processor_channel_reader_queue, 128, .inl u.2.2.2))]) := by
  refine CtI.ofZ (by decide) (Nat.le_of_ble_eq_true rfl) ?_
  intro p e s m below meth c A ls Q hE hP hD hS hl hQ
  obtain ⟨hx, hb, hml, hown, ht, hN, hK, hA⟩ := hE
  have hown : s.vm.findClass RX7 = some m.cls := hown
  have hl : lv_has ls 1 [(0, .ref a_this)] := hl
  obtain ⟨F, hF⟩ : ∃ F, f_X7_card o_this_processor_channel_reader r_this_processor_channel_reader_lengths r_this_processor_channel_reader_making r_this_processor_channel_reader_queue = F := ⟨_, rfl⟩
  rw [hF] at hQ
  unfold f_X7_card at hF
  refine lv_aload_n hx hb dX7_card_0 rfl (lv_at hl 0 rfl) ?_
  refine gf_X7_10 (v := .ref a_this_processor) hx hb hown ht hK hP 0 rfl rfl dX7_card_1 ?_
  refine gf_X7_62 (v := .ref a_this_processor_channel) hx hb hown ht hK hP 1 rfl rfl dX7_card_4 ?_
  refine gf_X7_66 (v := .ref a_this_processor_channel_reader) hx hb hown ht hK hP 2 rfl rfl dX7_card_7 ?_
  refine q_Vi (rest := []) (c_X4_queueRecord l D a_this_processor_channel_reader a_this_processor_channel_reader_lengths a_this_processor_channel_reader_making a_this_processor_channel_reader_queue a_this_processor_channel_reader_record k_this_processor_channel_reader_lengths k_this_processor_channel_reader_making k_this_processor_channel_reader_queue o_this_processor_channel_reader r_this_processor_channel_reader_lengths r_this_processor_channel_reader_making r_this_processor_channel_reader_queue hfm) cv_X4_queueRecord hx hb hml hown ht hN hK hA hP hD hS hl.1 (km_X7_82) ⟨Nat.le_of_ble_eq_true rfl, Nat.le_of_ble_eq_true rfl⟩ rfl rfl [3, 4, 5, 6] (by decide) rfl [0, 1, 2] rfl (fun _ => rfl) (ci := 4) rfl rfl rfl rfl rfl (Nat.le_of_ble_eq_true rfl) dX7_card_10 ⟨Nat.zero_le _, Nat.zero_le _⟩ (fun r w_1 H locs hw hP hD hS => ?_)
  obtain ⟨hw, hr⟩ := hw
  subst hr
  have hP : va_P D vwCl [(a_this, oX7 a_this_processor), (a_this_processor, oX3 a_this_processor_storage a_this_processor_status a_this_processor_channel a_this_processor_registers a_this_processor_first a_this_processor_second o_this_processor), (a_this_processor_channel, oX0 a_this_processor_channel_reader a_this_processor_channel_printer o_this_processor_channel), (a_this_processor_channel_reader, oX4 a_this_processor_channel_reader_making a_this_processor_channel_reader_queue a_this_processor_channel_reader_lengths a_this_processor_channel_reader_record w_1.2.1), (a_this_processor_channel_reader_lengths, .inl (k_this_processor_channel_reader_lengths, 8, .inl w_1.2.2.1)), (a_this_processor_channel_reader_making, .inl (k_this_processor_channel_reader_making, 16, .inl r_this_processor_channel_reader_making)), (a_this_processor_channel_reader_queue, .inl (k_this_processor_channel_reader_queue, 128, .inl w_1.2.2.2))] H := hP
  have hD : va_D A [(a_this, oX7 a_this_processor), (a_this_processor, oX3 a_this_processor_storage a_this_processor_status a_this_processor_channel a_this_processor_registers a_this_processor_first a_this_processor_second o_this_processor), (a_this_processor_channel, oX0 a_this_processor_channel_reader a_this_processor_channel_printer o_this_processor_channel), (a_this_processor_channel_reader, oX4 a_this_processor_channel_reader_making a_this_processor_channel_reader_queue a_this_processor_channel_reader_lengths a_this_processor_channel_reader_record w_1.2.1), (a_this_processor_channel_reader_lengths, .inl (k_this_processor_channel_reader_lengths, 8, .inl w_1.2.2.1)), (a_this_processor_channel_reader_making, .inl (k_this_processor_channel_reader_making, 16, .inl r_this_processor_channel_reader_making)), (a_this_processor_channel_reader_queue, .inl (k_this_processor_channel_reader_queue, 128, .inl w_1.2.2.2))] := hD
  rw [q_let_of hw] at hF
  exact hQ w_1.1 (w_1.1, w_1.2.1, w_1.2.2.1, w_1.2.2.2) _ _ _ _ dX7_card_13 ⟨hF.symm, rfl⟩ hP hD hS
theorem cv_X7_card : qV yX7_card cX7_card 1 (some .boolean) 0 := ⟨kc_X7_card, kt_X7_card, ks_X7_card, kn_X7, by decide, by decide +kernel⟩
def f_X7_step_L23 (o_this_processor : Bool × Int32 × Int32 × Int32 × Int32 × Int32 × Int32 × Int32 × Int32 × Int32) (p1 : Int32) : Nat → (Bool × Int32 × Int32 × Int32 × Int32 × Int32 × Int32 × Int32 × Int32 × Int32) → (Bool × Bool × Int32 × Int32 × Int32 × Bool × Bool × Bool × Int32 × Int32 × Int32 × Int32 × Int32) → Bool → (Nat → Int32) → (Nat → Int32) → Bool → (Nat → Int32) → (Int32 × Int32 × Int32 × Int32) → (Nat → Int32) → (Nat → Int32) → Int32 → Int32 × (Bool × Int32 × Int32 × Int32 × Int32 × Int32 × Int32 × Int32 × Int32 × Int32) × (Bool × Bool × Int32 × Int32 × Int32 × Bool × Bool × Bool × Int32 × Int32 × Int32 × Int32 × Int32) × Bool × (Nat → Int32) × (Nat → Int32) × Bool × (Nat → Int32) × (Int32 × Int32 × Int32 × Int32) × (Nat → Int32) × (Nat → Int32)
  | 0, o_this_processor_L23, o_this_processor_channel_L23, o_this_processor_first_L23, r_this_processor_first_digits_L23, r_this_processor_registers_L23, o_this_processor_second_L23, r_this_processor_second_digits_L23, o_this_processor_status_L23, r_this_processor_storage_bytes_L23, r_this_processor_storage_keys_L23, x3 => (0, o_this_processor_L23, o_this_processor_channel_L23, o_this_processor_first_L23, r_this_processor_first_digits_L23, r_this_processor_registers_L23, o_this_processor_second_L23, r_this_processor_second_digits_L23, o_this_processor_status_L23, r_this_processor_storage_bytes_L23, r_this_processor_storage_keys_L23)
  | fuel + 1, o_this_processor_L23, o_this_processor_channel_L23, o_this_processor_first_L23, r_this_processor_first_digits_L23, r_this_processor_registers_L23, o_this_processor_second_L23, r_this_processor_second_digits_L23, o_this_processor_status_L23, r_this_processor_storage_bytes_L23, r_this_processor_storage_keys_L23, x3 => (if p1 ≤ x3 then ((o_this_processor_L23.2.2.1 - o_this_processor.2.2.1), o_this_processor_L23, o_this_processor_channel_L23, o_this_processor_first_L23, r_this_processor_first_digits_L23, r_this_processor_registers_L23, o_this_processor_second_L23, r_this_processor_second_digits_L23, o_this_processor_status_L23, r_this_processor_storage_bytes_L23, r_this_processor_storage_keys_L23) else (q_let (f_X3_makeStep o_this_processor_L23 o_this_processor_channel_L23 o_this_processor_first_L23 r_this_processor_first_digits_L23 r_this_processor_registers_L23 o_this_processor_second_L23 r_this_processor_second_digits_L23 o_this_processor_status_L23 r_this_processor_storage_bytes_L23 r_this_processor_storage_keys_L23) fun w_5 => f_X7_step_L23 o_this_processor p1 fuel w_5.1 w_5.2.1 w_5.2.2.1 w_5.2.2.2.1 w_5.2.2.2.2.1 w_5.2.2.2.2.2.1 w_5.2.2.2.2.2.2.1 w_5.2.2.2.2.2.2.2.1 w_5.2.2.2.2.2.2.2.2.1 w_5.2.2.2.2.2.2.2.2.2 (x3 + (1 : Int32))))
def f_X7_step (o_this_processor : Bool × Int32 × Int32 × Int32 × Int32 × Int32 × Int32 × Int32 × Int32 × Int32) (o_this_processor_channel : Bool × Bool × Int32 × Int32 × Int32 × Bool × Bool × Bool × Int32 × Int32 × Int32 × Int32 × Int32) (o_this_processor_first : Bool) (r_this_processor_first_digits : Nat → Int32) (r_this_processor_registers : Nat → Int32) (o_this_processor_second : Bool) (r_this_processor_second_digits : Nat → Int32) (o_this_processor_status : Int32 × Int32 × Int32 × Int32) (r_this_processor_storage_bytes : Nat → Int32) (r_this_processor_storage_keys : Nat → Int32) (p1 : Int32) : Int32 × (Bool × Int32 × Int32 × Int32 × Int32 × Int32 × Int32 × Int32 × Int32 × Int32) × (Bool × Bool × Int32 × Int32 × Int32 × Bool × Bool × Bool × Int32 × Int32 × Int32 × Int32 × Int32) × Bool × (Nat → Int32) × (Nat → Int32) × Bool × (Nat → Int32) × (Int32 × Int32 × Int32 × Int32) × (Nat → Int32) × (Nat → Int32) := (if p1 < (1 : Int32) then ((-1), o_this_processor, o_this_processor_channel, o_this_processor_first, r_this_processor_first_digits, r_this_processor_registers, o_this_processor_second, r_this_processor_second_digits, o_this_processor_status, r_this_processor_storage_bytes, r_this_processor_storage_keys) else (if p1 ≤ (50 : Int32) then f_X7_step_L23 o_this_processor p1 (((p1 : Int32).toInt - (0 : Int32).toInt).toNat + 1) o_this_processor o_this_processor_channel o_this_processor_first r_this_processor_first_digits r_this_processor_registers o_this_processor_second r_this_processor_second_digits o_this_processor_status r_this_processor_storage_bytes r_this_processor_storage_keys 0 else ((-1), o_this_processor, o_this_processor_channel, o_this_processor_first, r_this_processor_first_digits, r_this_processor_registers, o_this_processor_second, r_this_processor_second_digits, o_this_processor_status, r_this_processor_storage_bytes, r_this_processor_storage_keys)))
set_option linter.all false in
set_option maxHeartbeats 4000000 in
set_option maxRecDepth 100000 in
theorem c_X7_step (l : Launch) (D : va_G) (a_this a_this_processor a_this_processor_channel a_this_processor_first a_this_processor_first_digits a_this_processor_registers a_this_processor_second a_this_processor_second_digits a_this_processor_status a_this_processor_storage a_this_processor_storage_bytes a_this_processor_storage_keys a_this_processor_channel_reader a_this_processor_channel_printer : Nat) (k_this_processor_first_digits k_this_processor_registers k_this_processor_second_digits k_this_processor_storage_bytes k_this_processor_storage_keys : ClassId) (o_this_processor : Bool × Int32 × Int32 × Int32 × Int32 × Int32 × Int32 × Int32 × Int32 × Int32) (o_this_processor_channel : Bool × Bool × Int32 × Int32 × Int32 × Bool × Bool × Bool × Int32 × Int32 × Int32 × Int32 × Int32) (o_this_processor_first : Bool) (r_this_processor_first_digits : Nat → Int32) (r_this_processor_registers : Nat → Int32) (o_this_processor_second : Bool) (r_this_processor_second_digits : Nat → Int32) (o_this_processor_status : Int32 × Int32 × Int32 × Int32) (r_this_processor_storage_bytes : Nat → Int32) (r_this_processor_storage_keys : Nat → Int32) (p1 : Int32) : CtI l yX7_step cX7_step 4 (some .int) { frames := 7, cells := 0, slots := 0, locals := 151 } D [.ref a_this, .int p1] [(a_this, oX7 a_this_processor), (a_this_processor, oX3 a_this_processor_storage a_this_processor_status a_this_processor_channel a_this_processor_registers a_this_processor_first a_this_processor_second o_this_processor), (a_this_processor_channel, oX0 a_this_processor_channel_reader a_this_processor_channel_printer o_this_processor_channel), (a_this_processor_first, oX1 a_this_processor_first_digits o_this_processor_first), (a_this_processor_first_digits, .inl (k_this_processor_first_digits, 32, .inl r_this_processor_first_digits)), (a_this_processor_registers, .inl (k_this_processor_registers, 16, .inl r_this_processor_registers)), (a_this_processor_second, oX1 a_this_processor_second_digits o_this_processor_second), (a_this_processor_second_digits, .inl (k_this_processor_second_digits, 32, .inl r_this_processor_second_digits)), (a_this_processor_status, oX5 o_this_processor_status), (a_this_processor_storage, oX6 a_this_processor_storage_bytes a_this_processor_storage_keys), (a_this_processor_storage_bytes, .inl (k_this_processor_storage_bytes, 2048, .inl r_this_processor_storage_bytes)), (a_this_processor_storage_keys, .inl (k_this_processor_storage_keys, 8, .inl r_this_processor_storage_keys))] [(k_this_processor_first_digits, .int), (k_this_processor_registers, .int), (k_this_processor_second_digits, .int), (k_this_processor_storage_bytes, .byte), (k_this_processor_storage_keys, .int)] (fun (r : Int32) (u : Int32 × (Bool × Int32 × Int32 × Int32 × Int32 × Int32 × Int32 × Int32 × Int32 × Int32) × (Bool × Bool × Int32 × Int32 × Int32 × Bool × Bool × Bool × Int32 × Int32 × Int32 × Int32 × Int32) × Bool × (Nat → Int32) × (Nat → Int32) × Bool × (Nat → Int32) × (Int32 × Int32 × Int32 × Int32) × (Nat → Int32) × (Nat → Int32)) => f_X7_step o_this_processor o_this_processor_channel o_this_processor_first r_this_processor_first_digits r_this_processor_registers o_this_processor_second r_this_processor_second_digits o_this_processor_status r_this_processor_storage_bytes r_this_processor_storage_keys p1 = u ∧ r = u.1) (fun u => [(a_this, oX7 a_this_processor), (a_this_processor, oX3 a_this_processor_storage a_this_processor_status a_this_processor_channel a_this_processor_registers a_this_processor_first a_this_processor_second u.2.1), (a_this_processor_channel, oX0 a_this_processor_channel_reader a_this_processor_channel_printer u.2.2.1), (a_this_processor_first, oX1 a_this_processor_first_digits u.2.2.2.1), (a_this_processor_first_digits, .inl (k_this_processor_first_digits, 32, .inl u.2.2.2.2.1)), (a_this_processor_registers, .inl (k_this_processor_registers, 16, .inl u.2.2.2.2.2.1)), (a_this_processor_second, oX1 a_this_processor_second_digits u.2.2.2.2.2.2.1), (a_this_processor_second_digits, .inl (k_this_processor_second_digits, 32, .inl u.2.2.2.2.2.2.2.1)), (a_this_processor_status, oX5 u.2.2.2.2.2.2.2.2.1), (a_this_processor_storage, oX6 a_this_processor_storage_bytes a_this_processor_storage_keys), (a_this_processor_storage_bytes, .inl (k_this_processor_storage_bytes, 2048, .inl u.2.2.2.2.2.2.2.2.2.1)), (a_this_processor_storage_keys, .inl (k_this_processor_storage_keys, 8, .inl u.2.2.2.2.2.2.2.2.2.2))]) := by
  refine CtI.of (by decide) (Nat.le_of_ble_eq_true rfl) ?_
  intro p e s m below meth c A ls Q hE hP hD hS hl hQ
  obtain ⟨hx, hb, hml, hown, ht, hN, hK, hA⟩ := hE
  have hown : s.vm.findClass RX7 = some m.cls := hown
  have hl : lv_has ls 4 [(0, .ref a_this), (1, .int p1)] := hl
  obtain ⟨F, hF⟩ : ∃ F, f_X7_step o_this_processor o_this_processor_channel o_this_processor_first r_this_processor_first_digits r_this_processor_registers o_this_processor_second r_this_processor_second_digits o_this_processor_status r_this_processor_storage_bytes r_this_processor_storage_keys p1 = F := ⟨_, rfl⟩
  rw [hF] at hQ
  unfold f_X7_step at hF
  refine lv_iload_n hx hb dX7_step_0 rfl (lv_at hl 1 rfl) ?_
  refine lv_iconst (v := 1) hx hb dX7_step_1 (by decide) ?_
  refine lv_icmp_lt (tgt := 11) hx hb dX7_step_2 (by decide) (fun c_1 => ?_) (fun c_1 => ?_)
  · skip
    rw [if_pos c_1] at hF
    refine lv_iconst (v := (-1)) hx hb dX7_step_11 (by decide) ?_
    exact hQ (-1) ((-1), o_this_processor, o_this_processor_channel, o_this_processor_first, r_this_processor_first_digits, r_this_processor_registers, o_this_processor_second, r_this_processor_second_digits, o_this_processor_status, r_this_processor_storage_bytes, r_this_processor_storage_keys) _ _ _ _ dX7_step_12 ⟨hF.symm, rfl⟩ hP hD hS
  · skip
    rw [if_neg c_1] at hF
    refine lv_iload_n hx hb dX7_step_5 rfl (lv_at hl 1 rfl) ?_
    refine lv_bipush (v := 50) hx hb dX7_step_6 (by decide) ?_
    refine lv_icmp_le (tgt := 13) hx hb dX7_step_8 (by decide) (fun c_2 => ?_) (fun c_2 => ?_)
    · skip
      rw [if_pos c_2] at hF
      refine lv_aload_n hx hb dX7_step_13 rfl (lv_at hl 0 rfl) ?_
      refine gf_X7_10 (v := .ref a_this_processor) hx hb hown ht hK hP 0 rfl rfl dX7_step_14 ?_
      refine gf_X7_86 (v := .int o_this_processor.2.2.1) hx hb hown ht hK hP 1 rfl rfl dX7_step_17 ?_
      refine lv_istore_n (lv' := [(2, .int o_this_processor.2.2.1), (0, .ref a_this), (1, .int p1)]) hx hb dX7_step_20 rfl hl (by decide) rfl (fun ls hl => ?_)
      refine lv_iconst (v := 0) hx hb dX7_step_21 (by decide) ?_
      refine lv_istore_n (lv' := [(3, .int 0), (2, .int o_this_processor.2.2.1), (0, .ref a_this), (1, .int p1)]) hx hb dX7_step_22 rfl hl (by decide) rfl (fun ls hl => ?_)
      have L23 : ∀ (fuel : Nat) (o_this_processor_L23 : Bool × Int32 × Int32 × Int32 × Int32 × Int32 × Int32 × Int32 × Int32 × Int32) (o_this_processor_channel_L23 : Bool × Bool × Int32 × Int32 × Int32 × Bool × Bool × Bool × Int32 × Int32 × Int32 × Int32 × Int32) (o_this_processor_first_L23 : Bool) (r_this_processor_first_digits_L23 : Nat → Int32) (r_this_processor_registers_L23 : Nat → Int32) (o_this_processor_second_L23 : Bool) (r_this_processor_second_digits_L23 : Nat → Int32) (o_this_processor_status_L23 : Int32 × Int32 × Int32 × Int32) (r_this_processor_storage_bytes_L23 : Nat → Int32) (r_this_processor_storage_keys_L23 : Nat → Int32) (x3 : Int32) (H : Heap) (locs : List Loc) (ls : Array Slot), ((p1 : Int32).toInt - (x3 : Int32).toInt).toNat < fuel → va_P D vwCl [(a_this, oX7 a_this_processor), (a_this_processor, oX3 a_this_processor_storage a_this_processor_status a_this_processor_channel a_this_processor_registers a_this_processor_first a_this_processor_second o_this_processor_L23), (a_this_processor_channel, oX0 a_this_processor_channel_reader a_this_processor_channel_printer o_this_processor_channel_L23), (a_this_processor_first, oX1 a_this_processor_first_digits o_this_processor_first_L23), (a_this_processor_first_digits, .inl (k_this_processor_first_digits, 32, .inl r_this_processor_first_digits_L23)), (a_this_processor_registers, .inl (k_this_processor_registers, 16, .inl r_this_processor_registers_L23)), (a_this_processor_second, oX1 a_this_processor_second_digits o_this_processor_second_L23), (a_this_processor_second_digits, .inl (k_this_processor_second_digits, 32, .inl r_this_processor_second_digits_L23)), (a_this_processor_status, oX5 o_this_processor_status_L23), (a_this_processor_storage, oX6 a_this_processor_storage_bytes a_this_processor_storage_keys), (a_this_processor_storage_bytes, .inl (k_this_processor_storage_bytes, 2048, .inl r_this_processor_storage_bytes_L23)), (a_this_processor_storage_keys, .inl (k_this_processor_storage_keys, 8, .inl r_this_processor_storage_keys_L23))] H → va_D A [(a_this, oX7 a_this_processor), (a_this_processor, oX3 a_this_processor_storage a_this_processor_status a_this_processor_channel a_this_processor_registers a_this_processor_first a_this_processor_second o_this_processor_L23), (a_this_processor_channel, oX0 a_this_processor_channel_reader a_this_processor_channel_printer o_this_processor_channel_L23), (a_this_processor_first, oX1 a_this_processor_first_digits o_this_processor_first_L23), (a_this_processor_first_digits, .inl (k_this_processor_first_digits, 32, .inl r_this_processor_first_digits_L23)), (a_this_processor_registers, .inl (k_this_processor_registers, 16, .inl r_this_processor_registers_L23)), (a_this_processor_second, oX1 a_this_processor_second_digits o_this_processor_second_L23), (a_this_processor_second_digits, .inl (k_this_processor_second_digits, 32, .inl r_this_processor_second_digits_L23)), (a_this_processor_status, oX5 o_this_processor_status_L23), (a_this_processor_storage, oX6 a_this_processor_storage_bytes a_this_processor_storage_keys), (a_this_processor_storage_bytes, .inl (k_this_processor_storage_bytes, 2048, .inl r_this_processor_storage_bytes_L23)), (a_this_processor_storage_keys, .inl (k_this_processor_storage_keys, 8, .inl r_this_processor_storage_keys_L23))] → va_S A s.heap H locs → lv_has ls 4 [(3, .int x3), (2, .int o_this_processor.2.2.1), (0, .ref a_this), (1, .int p1)] → f_X7_step_L23 o_this_processor p1 fuel o_this_processor_L23 o_this_processor_channel_L23 o_this_processor_first_L23 r_this_processor_first_digits_L23 r_this_processor_registers_L23 o_this_processor_second_L23 r_this_processor_second_digits_L23 o_this_processor_status_L23 r_this_processor_storage_bytes_L23 r_this_processor_storage_keys_L23 x3 = F → W p l e ({ frames := 7, cells := 0, slots := 0, locals := 151 } : Room) s m ([.ref a_this, .int p1] : List Value).toArray below meth c H locs 0 0 Q (F0 m 23 ls []) := by
        intro fuel
        induction fuel with
        | zero => intro o_this_processor_L23 o_this_processor_channel_L23 o_this_processor_first_L23 r_this_processor_first_digits_L23 r_this_processor_registers_L23 o_this_processor_second_L23 r_this_processor_second_digits_L23 o_this_processor_status_L23 r_this_processor_storage_bytes_L23 r_this_processor_storage_keys_L23 x3 H locs ls hm; exact absurd hm (Nat.not_lt_zero _)
        | succ fuel ih =>
          intro o_this_processor_L23 o_this_processor_channel_L23 o_this_processor_first_L23 r_this_processor_first_digits_L23 r_this_processor_registers_L23 o_this_processor_second_L23 r_this_processor_second_digits_L23 o_this_processor_status_L23 r_this_processor_storage_bytes_L23 r_this_processor_storage_keys_L23 x3 H locs ls hm  hP hD hS hl hF
          rw [f_X7_step_L23] at hF
          skip
          refine lv_iload_n hx hb dX7_step_23 rfl (lv_at hl 0 rfl) ?_
          refine lv_iload_n hx hb dX7_step_24 rfl (lv_at hl 3 rfl) ?_
          refine lv_icmp_ge (tgt := 41) hx hb dX7_step_25 (by decide) (fun c_4 => ?_) (fun c_4 => ?_)
          · skip
            rw [if_pos c_4] at hF
            refine lv_aload_n hx hb dX7_step_41 rfl (lv_at hl 2 rfl) ?_
            refine gf_X7_10 (v := .ref a_this_processor) hx hb hown ht hK hP 0 rfl rfl dX7_step_42 ?_
            refine gf_X7_86 (v := .int o_this_processor_L23.2.2.1) hx hb hown ht hK hP 1 rfl rfl dX7_step_45 ?_
            refine lv_iload_n hx hb dX7_step_48 rfl (lv_at hl 1 rfl) ?_
            refine lv_isub hx hb dX7_step_49 ?_
            exact hQ (o_this_processor_L23.2.2.1 - o_this_processor.2.2.1) ((o_this_processor_L23.2.2.1 - o_this_processor.2.2.1), o_this_processor_L23, o_this_processor_channel_L23, o_this_processor_first_L23, r_this_processor_first_digits_L23, r_this_processor_registers_L23, o_this_processor_second_L23, r_this_processor_second_digits_L23, o_this_processor_status_L23, r_this_processor_storage_bytes_L23, r_this_processor_storage_keys_L23) _ _ _ _ dX7_step_50 ⟨hF.symm, rfl⟩ hP hD hS
          · skip
            rw [if_neg c_4] at hF
            refine lv_aload_n hx hb dX7_step_28 rfl (lv_at hl 2 rfl) ?_
            refine gf_X7_10 (v := .ref a_this_processor) hx hb hown ht hK hP 0 rfl rfl dX7_step_29 ?_
            refine q_Vv (rest := []) (c_X3_makeStep l D a_this_processor a_this_processor_channel a_this_processor_first a_this_processor_first_digits a_this_processor_registers a_this_processor_second a_this_processor_second_digits a_this_processor_status a_this_processor_storage a_this_processor_storage_bytes a_this_processor_storage_keys a_this_processor_channel_reader a_this_processor_channel_printer k_this_processor_first_digits k_this_processor_registers k_this_processor_second_digits k_this_processor_storage_bytes k_this_processor_storage_keys o_this_processor_L23 o_this_processor_channel_L23 o_this_processor_first_L23 r_this_processor_first_digits_L23 r_this_processor_registers_L23 o_this_processor_second_L23 r_this_processor_second_digits_L23 o_this_processor_status_L23 r_this_processor_storage_bytes_L23 r_this_processor_storage_keys_L23) cv_X3_makeStep hx hb hml hown ht hN hK hA hP hD hS hl.1 (km_X7_90) ⟨Nat.le_of_ble_eq_true rfl, Nat.le_of_ble_eq_true rfl⟩ rfl rfl [1, 2, 3, 4, 5, 6, 7, 8, 9, 10, 11] (by decide) rfl [0, 1, 2, 3, 4] rfl (fun _ => rfl) (ci := 3) rfl rfl rfl rfl rfl (Nat.le_of_ble_eq_true rfl) dX7_step_32 ⟨Nat.zero_le _, Nat.zero_le _⟩ (fun w_5 H locs hw hP hD hS => ?_)
            have hP : va_P D vwCl [(a_this, oX7 a_this_processor), (a_this_processor, oX3 a_this_processor_storage a_this_processor_status a_this_processor_channel a_this_processor_registers a_this_processor_first a_this_processor_second w_5.1), (a_this_processor_channel, oX0 a_this_processor_channel_reader a_this_processor_channel_printer w_5.2.1), (a_this_processor_first, oX1 a_this_processor_first_digits w_5.2.2.1), (a_this_processor_first_digits, .inl (k_this_processor_first_digits, 32, .inl w_5.2.2.2.1)), (a_this_processor_registers, .inl (k_this_processor_registers, 16, .inl w_5.2.2.2.2.1)), (a_this_processor_second, oX1 a_this_processor_second_digits w_5.2.2.2.2.2.1), (a_this_processor_second_digits, .inl (k_this_processor_second_digits, 32, .inl w_5.2.2.2.2.2.2.1)), (a_this_processor_status, oX5 w_5.2.2.2.2.2.2.2.1), (a_this_processor_storage, oX6 a_this_processor_storage_bytes a_this_processor_storage_keys), (a_this_processor_storage_bytes, .inl (k_this_processor_storage_bytes, 2048, .inl w_5.2.2.2.2.2.2.2.2.1)), (a_this_processor_storage_keys, .inl (k_this_processor_storage_keys, 8, .inl w_5.2.2.2.2.2.2.2.2.2))] H := hP
            have hD : va_D A [(a_this, oX7 a_this_processor), (a_this_processor, oX3 a_this_processor_storage a_this_processor_status a_this_processor_channel a_this_processor_registers a_this_processor_first a_this_processor_second w_5.1), (a_this_processor_channel, oX0 a_this_processor_channel_reader a_this_processor_channel_printer w_5.2.1), (a_this_processor_first, oX1 a_this_processor_first_digits w_5.2.2.1), (a_this_processor_first_digits, .inl (k_this_processor_first_digits, 32, .inl w_5.2.2.2.1)), (a_this_processor_registers, .inl (k_this_processor_registers, 16, .inl w_5.2.2.2.2.1)), (a_this_processor_second, oX1 a_this_processor_second_digits w_5.2.2.2.2.2.1), (a_this_processor_second_digits, .inl (k_this_processor_second_digits, 32, .inl w_5.2.2.2.2.2.2.1)), (a_this_processor_status, oX5 w_5.2.2.2.2.2.2.2.1), (a_this_processor_storage, oX6 a_this_processor_storage_bytes a_this_processor_storage_keys), (a_this_processor_storage_bytes, .inl (k_this_processor_storage_bytes, 2048, .inl w_5.2.2.2.2.2.2.2.2.1)), (a_this_processor_storage_keys, .inl (k_this_processor_storage_keys, 8, .inl w_5.2.2.2.2.2.2.2.2.2))] := hD
            rw [q_let_of hw] at hF
            refine lv_iinc (v := (x3 + (1 : Int32))) (lv' := [(3, .int (x3 + (1 : Int32))), (2, .int o_this_processor.2.2.1), (0, .ref a_this), (1, .int p1)]) hx hb dX7_step_35 hl (k := 0) rfl rfl (by decide) rfl (fun ls hl => ?_)
            refine lv_goto (tgt := 23) hx hb dX7_step_38 (by decide) ?_
            exact ih w_5.1 w_5.2.1 w_5.2.2.1 w_5.2.2.2.1 w_5.2.2.2.2.1 w_5.2.2.2.2.2.1 w_5.2.2.2.2.2.2.1 w_5.2.2.2.2.2.2.2.1 w_5.2.2.2.2.2.2.2.2.1 w_5.2.2.2.2.2.2.2.2.2 (x3 + (1 : Int32)) _ _ _ (by first | exact q_up hm c_1 | exact q_up hm c_2 | exact q_up hm c_4)  hP hD hS (lv_sub hl [0, 1, 2, 3] rfl) hF
      exact L23 (((p1 : Int32).toInt - (0 : Int32).toInt).toNat + 1) o_this_processor o_this_processor_channel o_this_processor_first r_this_processor_first_digits r_this_processor_registers o_this_processor_second r_this_processor_second_digits o_this_processor_status r_this_processor_storage_bytes r_this_processor_storage_keys 0 _ _ _ (Nat.lt_succ_self _)  hP hD hS (lv_sub hl [0, 1, 2, 3] rfl) hF
    · skip
      rw [if_neg c_2] at hF
      refine lv_iconst (v := (-1)) hx hb dX7_step_11 (by decide) ?_
      exact hQ (-1) ((-1), o_this_processor, o_this_processor_channel, o_this_processor_first, r_this_processor_first_digits, r_this_processor_registers, o_this_processor_second, r_this_processor_second_digits, o_this_processor_status, r_this_processor_storage_bytes, r_this_processor_storage_keys) _ _ _ _ dX7_step_12 ⟨hF.symm, rfl⟩ hP hD hS
theorem cv_X7_step : qV yX7_step cX7_step 4 (some .int) 1 := ⟨kc_X7_step, kt_X7_step, ks_X7_step, kn_X7, by decide, by decide +kernel⟩
def f_X7_channel_L15 (r_this_processor_channel_reader_lengths : Nat → Int32) (r_this_processor_channel_reader_queue : Nat → Int32) (r_this_processor_storage_keys : Nat → Int32) (p1 : Int32) : Nat → (Bool × Bool × Int32 × Int32 × Int32 × Bool × Bool × Bool × Int32 × Int32 × Int32 × Int32 × Int32) → (Int32 × Int32) → (Nat → Int32) → (Int32 × Int32 × Int32 × Int32 × Int32) → (Nat → Int32) → (Nat → Int32) → Int32 → Int32 × (Bool × Bool × Int32 × Int32 × Int32 × Bool × Bool × Bool × Int32 × Int32 × Int32 × Int32 × Int32) × (Int32 × Int32) × (Nat → Int32) × (Int32 × Int32 × Int32 × Int32 × Int32) × (Nat → Int32) × (Nat → Int32)
  | 0, o_this_processor_channel_L15, o_this_processor_channel_printer_L15, r_this_processor_channel_printer_line_L15, o_this_processor_channel_reader_L15, r_this_processor_channel_reader_record_L15, r_this_processor_storage_bytes_L15, x2 => (0, o_this_processor_channel_L15, o_this_processor_channel_printer_L15, r_this_processor_channel_printer_line_L15, o_this_processor_channel_reader_L15, r_this_processor_channel_reader_record_L15, r_this_processor_storage_bytes_L15)
  | fuel + 1, o_this_processor_channel_L15, o_this_processor_channel_printer_L15, r_this_processor_channel_printer_line_L15, o_this_processor_channel_reader_L15, r_this_processor_channel_reader_record_L15, r_this_processor_storage_bytes_L15, x2 => (if p1 ≤ x2 then (x2, o_this_processor_channel_L15, o_this_processor_channel_printer_L15, r_this_processor_channel_printer_line_L15, o_this_processor_channel_reader_L15, r_this_processor_channel_reader_record_L15, r_this_processor_storage_bytes_L15) else (if o_this_processor_channel_L15.1 = true then (q_let (f_X0_makeMove o_this_processor_channel_L15 o_this_processor_channel_printer_L15 r_this_processor_channel_printer_line_L15 o_this_processor_channel_reader_L15 r_this_processor_channel_reader_lengths r_this_processor_channel_reader_queue r_this_processor_channel_reader_record_L15 r_this_processor_storage_bytes_L15 r_this_processor_storage_keys) fun w_6 => f_X7_channel_L15 r_this_processor_channel_reader_lengths r_this_processor_channel_reader_queue r_this_processor_storage_keys p1 fuel w_6.1 w_6.2.1 w_6.2.2.1 w_6.2.2.2.1 w_6.2.2.2.2.1 w_6.2.2.2.2.2 (x2 + (1 : Int32))) else (x2, o_this_processor_channel_L15, o_this_processor_channel_printer_L15, r_this_processor_channel_printer_line_L15, o_this_processor_channel_reader_L15, r_this_processor_channel_reader_record_L15, r_this_processor_storage_bytes_L15)))
def f_X7_channel (o_this_processor_channel : Bool × Bool × Int32 × Int32 × Int32 × Bool × Bool × Bool × Int32 × Int32 × Int32 × Int32 × Int32) (o_this_processor_channel_printer : Int32 × Int32) (r_this_processor_channel_printer_line : Nat → Int32) (o_this_processor_channel_reader : Int32 × Int32 × Int32 × Int32 × Int32) (r_this_processor_channel_reader_lengths : Nat → Int32) (r_this_processor_channel_reader_queue : Nat → Int32) (r_this_processor_channel_reader_record : Nat → Int32) (r_this_processor_storage_bytes : Nat → Int32) (r_this_processor_storage_keys : Nat → Int32) (p1 : Int32) : Int32 × (Bool × Bool × Int32 × Int32 × Int32 × Bool × Bool × Bool × Int32 × Int32 × Int32 × Int32 × Int32) × (Int32 × Int32) × (Nat → Int32) × (Int32 × Int32 × Int32 × Int32 × Int32) × (Nat → Int32) × (Nat → Int32) := (if p1 < (1 : Int32) then ((-1), o_this_processor_channel, o_this_processor_channel_printer, r_this_processor_channel_printer_line, o_this_processor_channel_reader, r_this_processor_channel_reader_record, r_this_processor_storage_bytes) else (if p1 ≤ (50 : Int32) then f_X7_channel_L15 r_this_processor_channel_reader_lengths r_this_processor_channel_reader_queue r_this_processor_storage_keys p1 (((p1 : Int32).toInt - (0 : Int32).toInt).toNat + 1) o_this_processor_channel o_this_processor_channel_printer r_this_processor_channel_printer_line o_this_processor_channel_reader r_this_processor_channel_reader_record r_this_processor_storage_bytes 0 else ((-1), o_this_processor_channel, o_this_processor_channel_printer, r_this_processor_channel_printer_line, o_this_processor_channel_reader, r_this_processor_channel_reader_record, r_this_processor_storage_bytes)))
set_option linter.all false in
set_option maxHeartbeats 4000000 in
set_option maxRecDepth 100000 in
theorem c_X7_channel (l : Launch) (D : va_G) (a_this a_this_processor a_this_processor_channel a_this_processor_channel_printer a_this_processor_channel_printer_line a_this_processor_channel_reader a_this_processor_channel_reader_lengths a_this_processor_channel_reader_queue a_this_processor_channel_reader_record a_this_processor_storage a_this_processor_storage_bytes a_this_processor_storage_keys a_this_processor_status a_this_processor_registers a_this_processor_first a_this_processor_second a_this_processor_channel_reader_making : Nat) (k_this_processor_channel_printer_line k_this_processor_channel_reader_lengths k_this_processor_channel_reader_queue k_this_processor_channel_reader_record k_this_processor_storage_bytes k_this_processor_storage_keys : ClassId) (o_this_processor : Bool × Int32 × Int32 × Int32 × Int32 × Int32 × Int32 × Int32 × Int32 × Int32) (o_this_processor_channel : Bool × Bool × Int32 × Int32 × Int32 × Bool × Bool × Bool × Int32 × Int32 × Int32 × Int32 × Int32) (o_this_processor_channel_printer : Int32 × Int32) (r_this_processor_channel_printer_line : Nat → Int32) (o_this_processor_channel_reader : Int32 × Int32 × Int32 × Int32 × Int32) (r_this_processor_channel_reader_lengths : Nat → Int32) (r_this_processor_channel_reader_queue : Nat → Int32) (r_this_processor_channel_reader_record : Nat → Int32) (r_this_processor_storage_bytes : Nat → Int32) (r_this_processor_storage_keys : Nat → Int32) (p1 : Int32) (hfq : sb_Fit r_this_processor_channel_reader_queue) : CtI l yX7_channel cX7_channel 3 (some .int) { frames := 5, cells := 0, slots := 0, locals := 125 } D [.ref a_this, .int p1] [(a_this, oX7 a_this_processor), (a_this_processor, oX3 a_this_processor_storage a_this_processor_status a_this_processor_channel a_this_processor_registers a_this_processor_first a_this_processor_second o_this_processor), (a_this_processor_channel, oX0 a_this_processor_channel_reader a_this_processor_channel_printer o_this_processor_channel), (a_this_processor_channel_printer, oX2 a_this_processor_channel_printer_line o_this_processor_channel_printer), (a_this_processor_channel_printer_line, .inl (k_this_processor_channel_printer_line, 32, .inl r_this_processor_channel_printer_line)), (a_this_processor_channel_reader, oX4 a_this_processor_channel_reader_making a_this_processor_channel_reader_queue a_this_processor_channel_reader_lengths a_this_processor_channel_reader_record o_this_processor_channel_reader), (a_this_processor_channel_reader_lengths, .inl (k_this_processor_channel_reader_lengths, 8, .inl r_this_processor_channel_reader_lengths)), (a_this_processor_channel_reader_queue, .inl (k_this_processor_channel_reader_queue, 128, .inl r_this_processor_channel_reader_queue)), (a_this_processor_channel_reader_record, .inl (k_this_processor_channel_reader_record, 16, .inl r_this_processor_channel_reader_record)), (a_this_processor_storage, oX6 a_this_processor_storage_bytes a_this_processor_storage_keys), (a_this_processor_storage_bytes, .inl (k_this_processor_storage_bytes, 2048, .inl r_this_processor_storage_bytes)), (a_this_processor_storage_keys, .inl (k_this_processor_storage_keys, 8, .inl r_this_processor_storage_keys))] [(k_this_processor_channel_printer_line, .byte), (k_this_processor_channel_reader_lengths, .int), (k_this_processor_channel_reader_queue, .byte), (k_this_processor_channel_reader_record, .byte), (k_this_processor_storage_bytes, .byte), (k_this_processor_storage_keys, .int)] (fun (r : Int32) (u : Int32 × (Bool × Bool × Int32 × Int32 × Int32 × Bool × Bool × Bool × Int32 × Int32 × Int32 × Int32 × Int32) × (Int32 × Int32) × (Nat → Int32) × (Int32 × Int32 × Int32 × Int32 × Int32) × (Nat → Int32) × (Nat → Int32)) => f_X7_channel o_this_processor_channel o_this_processor_channel_printer r_this_processor_channel_printer_line o_this_processor_channel_reader r_this_processor_channel_reader_lengths r_this_processor_channel_reader_queue r_this_processor_channel_reader_record r_this_processor_storage_bytes r_this_processor_storage_keys p1 = u ∧ r = u.1) (fun u => [(a_this, oX7 a_this_processor), (a_this_processor, oX3 a_this_processor_storage a_this_processor_status a_this_processor_channel a_this_processor_registers a_this_processor_first a_this_processor_second o_this_processor), (a_this_processor_channel, oX0 a_this_processor_channel_reader a_this_processor_channel_printer u.2.1), (a_this_processor_channel_printer, oX2 a_this_processor_channel_printer_line u.2.2.1), (a_this_processor_channel_printer_line, .inl (k_this_processor_channel_printer_line, 32, .inl u.2.2.2.1)), (a_this_processor_channel_reader, oX4 a_this_processor_channel_reader_making a_this_processor_channel_reader_queue a_this_processor_channel_reader_lengths a_this_processor_channel_reader_record u.2.2.2.2.1), (a_this_processor_channel_reader_lengths, .inl (k_this_processor_channel_reader_lengths, 8, .inl r_this_processor_channel_reader_lengths)), (a_this_processor_channel_reader_queue, .inl (k_this_processor_channel_reader_queue, 128, .inl r_this_processor_channel_reader_queue)), (a_this_processor_channel_reader_record, .inl (k_this_processor_channel_reader_record, 16, .inl u.2.2.2.2.2.1)), (a_this_processor_storage, oX6 a_this_processor_storage_bytes a_this_processor_storage_keys), (a_this_processor_storage_bytes, .inl (k_this_processor_storage_bytes, 2048, .inl u.2.2.2.2.2.2)), (a_this_processor_storage_keys, .inl (k_this_processor_storage_keys, 8, .inl r_this_processor_storage_keys))]) := by
  refine CtI.of (by decide) (Nat.le_of_ble_eq_true rfl) ?_
  intro p e s m below meth c A ls Q hE hP hD hS hl hQ
  obtain ⟨hx, hb, hml, hown, ht, hN, hK, hA⟩ := hE
  have hown : s.vm.findClass RX7 = some m.cls := hown
  have hl : lv_has ls 3 [(0, .ref a_this), (1, .int p1)] := hl
  obtain ⟨F, hF⟩ : ∃ F, f_X7_channel o_this_processor_channel o_this_processor_channel_printer r_this_processor_channel_printer_line o_this_processor_channel_reader r_this_processor_channel_reader_lengths r_this_processor_channel_reader_queue r_this_processor_channel_reader_record r_this_processor_storage_bytes r_this_processor_storage_keys p1 = F := ⟨_, rfl⟩
  rw [hF] at hQ
  unfold f_X7_channel at hF
  refine lv_iload_n hx hb dX7_channel_0 rfl (lv_at hl 1 rfl) ?_
  refine lv_iconst (v := 1) hx hb dX7_channel_1 (by decide) ?_
  refine lv_icmp_lt (tgt := 11) hx hb dX7_channel_2 (by decide) (fun c_1 => ?_) (fun c_1 => ?_)
  · skip
    rw [if_pos c_1] at hF
    refine lv_iconst (v := (-1)) hx hb dX7_channel_11 (by decide) ?_
    exact hQ (-1) ((-1), o_this_processor_channel, o_this_processor_channel_printer, r_this_processor_channel_printer_line, o_this_processor_channel_reader, r_this_processor_channel_reader_record, r_this_processor_storage_bytes) _ _ _ _ dX7_channel_12 ⟨hF.symm, rfl⟩ hP hD hS
  · skip
    rw [if_neg c_1] at hF
    refine lv_iload_n hx hb dX7_channel_5 rfl (lv_at hl 1 rfl) ?_
    refine lv_bipush (v := 50) hx hb dX7_channel_6 (by decide) ?_
    refine lv_icmp_le (tgt := 13) hx hb dX7_channel_8 (by decide) (fun c_2 => ?_) (fun c_2 => ?_)
    · skip
      rw [if_pos c_2] at hF
      refine lv_iconst (v := 0) hx hb dX7_channel_13 (by decide) ?_
      refine lv_istore_n (lv' := [(2, .int 0), (0, .ref a_this), (1, .int p1)]) hx hb dX7_channel_14 rfl hl (by decide) rfl (fun ls hl => ?_)
      have L15 : ∀ (fuel : Nat) (o_this_processor_channel_L15 : Bool × Bool × Int32 × Int32 × Int32 × Bool × Bool × Bool × Int32 × Int32 × Int32 × Int32 × Int32) (o_this_processor_channel_printer_L15 : Int32 × Int32) (r_this_processor_channel_printer_line_L15 : Nat → Int32) (o_this_processor_channel_reader_L15 : Int32 × Int32 × Int32 × Int32 × Int32) (r_this_processor_channel_reader_record_L15 : Nat → Int32) (r_this_processor_storage_bytes_L15 : Nat → Int32) (x2 : Int32) (H : Heap) (locs : List Loc) (ls : Array Slot), ((p1 : Int32).toInt - (x2 : Int32).toInt).toNat < fuel → va_P D vwCl [(a_this, oX7 a_this_processor), (a_this_processor, oX3 a_this_processor_storage a_this_processor_status a_this_processor_channel a_this_processor_registers a_this_processor_first a_this_processor_second o_this_processor), (a_this_processor_channel, oX0 a_this_processor_channel_reader a_this_processor_channel_printer o_this_processor_channel_L15), (a_this_processor_channel_printer, oX2 a_this_processor_channel_printer_line o_this_processor_channel_printer_L15), (a_this_processor_channel_printer_line, .inl (k_this_processor_channel_printer_line, 32, .inl r_this_processor_channel_printer_line_L15)), (a_this_processor_channel_reader, oX4 a_this_processor_channel_reader_making a_this_processor_channel_reader_queue a_this_processor_channel_reader_lengths a_this_processor_channel_reader_record o_this_processor_channel_reader_L15), (a_this_processor_channel_reader_lengths, .inl (k_this_processor_channel_reader_lengths, 8, .inl r_this_processor_channel_reader_lengths)), (a_this_processor_channel_reader_queue, .inl (k_this_processor_channel_reader_queue, 128, .inl r_this_processor_channel_reader_queue)), (a_this_processor_channel_reader_record, .inl (k_this_processor_channel_reader_record, 16, .inl r_this_processor_channel_reader_record_L15)), (a_this_processor_storage, oX6 a_this_processor_storage_bytes a_this_processor_storage_keys), (a_this_processor_storage_bytes, .inl (k_this_processor_storage_bytes, 2048, .inl r_this_processor_storage_bytes_L15)), (a_this_processor_storage_keys, .inl (k_this_processor_storage_keys, 8, .inl r_this_processor_storage_keys))] H → va_D A [(a_this, oX7 a_this_processor), (a_this_processor, oX3 a_this_processor_storage a_this_processor_status a_this_processor_channel a_this_processor_registers a_this_processor_first a_this_processor_second o_this_processor), (a_this_processor_channel, oX0 a_this_processor_channel_reader a_this_processor_channel_printer o_this_processor_channel_L15), (a_this_processor_channel_printer, oX2 a_this_processor_channel_printer_line o_this_processor_channel_printer_L15), (a_this_processor_channel_printer_line, .inl (k_this_processor_channel_printer_line, 32, .inl r_this_processor_channel_printer_line_L15)), (a_this_processor_channel_reader, oX4 a_this_processor_channel_reader_making a_this_processor_channel_reader_queue a_this_processor_channel_reader_lengths a_this_processor_channel_reader_record o_this_processor_channel_reader_L15), (a_this_processor_channel_reader_lengths, .inl (k_this_processor_channel_reader_lengths, 8, .inl r_this_processor_channel_reader_lengths)), (a_this_processor_channel_reader_queue, .inl (k_this_processor_channel_reader_queue, 128, .inl r_this_processor_channel_reader_queue)), (a_this_processor_channel_reader_record, .inl (k_this_processor_channel_reader_record, 16, .inl r_this_processor_channel_reader_record_L15)), (a_this_processor_storage, oX6 a_this_processor_storage_bytes a_this_processor_storage_keys), (a_this_processor_storage_bytes, .inl (k_this_processor_storage_bytes, 2048, .inl r_this_processor_storage_bytes_L15)), (a_this_processor_storage_keys, .inl (k_this_processor_storage_keys, 8, .inl r_this_processor_storage_keys))] → va_S A s.heap H locs → lv_has ls 3 [(2, .int x2), (0, .ref a_this), (1, .int p1)] → f_X7_channel_L15 r_this_processor_channel_reader_lengths r_this_processor_channel_reader_queue r_this_processor_storage_keys p1 fuel o_this_processor_channel_L15 o_this_processor_channel_printer_L15 r_this_processor_channel_printer_line_L15 o_this_processor_channel_reader_L15 r_this_processor_channel_reader_record_L15 r_this_processor_storage_bytes_L15 x2 = F → W p l e ({ frames := 5, cells := 0, slots := 0, locals := 125 } : Room) s m ([.ref a_this, .int p1] : List Value).toArray below meth c H locs 0 0 Q (F0 m 15 ls []) := by
        intro fuel
        induction fuel with
        | zero => intro o_this_processor_channel_L15 o_this_processor_channel_printer_L15 r_this_processor_channel_printer_line_L15 o_this_processor_channel_reader_L15 r_this_processor_channel_reader_record_L15 r_this_processor_storage_bytes_L15 x2 H locs ls hm; exact absurd hm (Nat.not_lt_zero _)
        | succ fuel ih =>
          intro o_this_processor_channel_L15 o_this_processor_channel_printer_L15 r_this_processor_channel_printer_line_L15 o_this_processor_channel_reader_L15 r_this_processor_channel_reader_record_L15 r_this_processor_storage_bytes_L15 x2 H locs ls hm  hP hD hS hl hF
          rw [f_X7_channel_L15] at hF
          skip
          refine lv_iload_n hx hb dX7_channel_15 rfl (lv_at hl 0 rfl) ?_
          refine lv_iload_n hx hb dX7_channel_16 rfl (lv_at hl 2 rfl) ?_
          refine lv_icmp_ge (tgt := 56) hx hb dX7_channel_17 (by decide) (fun c_4 => ?_) (fun c_4 => ?_)
          · skip
            rw [if_pos c_4] at hF
            refine lv_iload_n hx hb dX7_channel_56 rfl (lv_at hl 0 rfl) ?_
            exact hQ x2 (x2, o_this_processor_channel_L15, o_this_processor_channel_printer_L15, r_this_processor_channel_printer_line_L15, o_this_processor_channel_reader_L15, r_this_processor_channel_reader_record_L15, r_this_processor_storage_bytes_L15) _ _ _ _ dX7_channel_57 ⟨hF.symm, rfl⟩ hP hD hS
          · skip
            rw [if_neg c_4] at hF
            refine lv_aload_n hx hb dX7_channel_20 rfl (lv_at hl 1 rfl) ?_
            refine gf_X7_10 (v := .ref a_this_processor) hx hb hown ht hK hP 0 rfl rfl dX7_channel_21 ?_
            refine gf_X7_62 (v := .ref a_this_processor_channel) hx hb hown ht hK hP 1 rfl rfl dX7_channel_24 ?_
            refine gf_X7_93 (v := .int (bI o_this_processor_channel_L15.1)) hx hb hown ht hK hP 2 rfl rfl dX7_channel_27 ?_
            refine lv_if_eq (tgt := 56) hx hb dX7_channel_30 (by decide) (fun c_5 => ?_) (fun c_5 => ?_)
            · have c_5 : ¬ o_this_processor_channel_L15.1 = true := by rw [(bI_eq0 _).mp c_5]; decide
              rw [if_neg c_5] at hF
              refine lv_iload_n hx hb dX7_channel_56 rfl (lv_at hl 0 rfl) ?_
              exact hQ x2 (x2, o_this_processor_channel_L15, o_this_processor_channel_printer_L15, r_this_processor_channel_printer_line_L15, o_this_processor_channel_reader_L15, r_this_processor_channel_reader_record_L15, r_this_processor_storage_bytes_L15) _ _ _ _ dX7_channel_57 ⟨hF.symm, rfl⟩ hP hD hS
            · have c_5 := (bI_ne0 _).mp c_5
              rw [if_pos c_5] at hF
              refine lv_aload_n hx hb dX7_channel_33 rfl (lv_at hl 1 rfl) ?_
              refine gf_X7_10 (v := .ref a_this_processor) hx hb hown ht hK hP 0 rfl rfl dX7_channel_34 ?_
              refine gf_X7_62 (v := .ref a_this_processor_channel) hx hb hown ht hK hP 1 rfl rfl dX7_channel_37 ?_
              refine lv_aload_n hx hb dX7_channel_40 rfl (lv_at hl 1 rfl) ?_
              refine gf_X7_10 (v := .ref a_this_processor) hx hb hown ht hK hP 0 rfl rfl dX7_channel_41 ?_
              refine gf_X7_22 (v := .ref a_this_processor_storage) hx hb hown ht hK hP 1 rfl rfl dX7_channel_44 ?_
              refine q_Vv (rest := []) (c_X0_makeMove l D a_this_processor_channel a_this_processor_channel_printer a_this_processor_channel_printer_line a_this_processor_channel_reader a_this_processor_channel_reader_lengths a_this_processor_channel_reader_queue a_this_processor_channel_reader_record a_this_processor_storage a_this_processor_storage_bytes a_this_processor_storage_keys a_this_processor_channel_reader_making k_this_processor_channel_printer_line k_this_processor_channel_reader_lengths k_this_processor_channel_reader_queue k_this_processor_channel_reader_record k_this_processor_storage_bytes k_this_processor_storage_keys o_this_processor_channel_L15 o_this_processor_channel_printer_L15 r_this_processor_channel_printer_line_L15 o_this_processor_channel_reader_L15 r_this_processor_channel_reader_lengths r_this_processor_channel_reader_queue r_this_processor_channel_reader_record_L15 r_this_processor_storage_bytes_L15 r_this_processor_storage_keys hfq) cv_X0_makeMove hx hb hml hown ht hN hK hA hP hD hS hl.1 (km_X7_97) ⟨Nat.le_of_ble_eq_true rfl, Nat.le_of_ble_eq_true rfl⟩ rfl rfl [2, 3, 4, 5, 6, 7, 8, 9, 10, 11] (by decide) rfl [0, 1, 2, 3, 4, 5] rfl (fun _ => rfl) (ci := 0) rfl rfl rfl rfl rfl (Nat.le_of_ble_eq_true rfl) dX7_channel_47 ⟨Nat.zero_le _, Nat.zero_le _⟩ (fun w_6 H locs hw hP hD hS => ?_)
              have hP : va_P D vwCl [(a_this, oX7 a_this_processor), (a_this_processor, oX3 a_this_processor_storage a_this_processor_status a_this_processor_channel a_this_processor_registers a_this_processor_first a_this_processor_second o_this_processor), (a_this_processor_channel, oX0 a_this_processor_channel_reader a_this_processor_channel_printer w_6.1), (a_this_processor_channel_printer, oX2 a_this_processor_channel_printer_line w_6.2.1), (a_this_processor_channel_printer_line, .inl (k_this_processor_channel_printer_line, 32, .inl w_6.2.2.1)), (a_this_processor_channel_reader, oX4 a_this_processor_channel_reader_making a_this_processor_channel_reader_queue a_this_processor_channel_reader_lengths a_this_processor_channel_reader_record w_6.2.2.2.1), (a_this_processor_channel_reader_lengths, .inl (k_this_processor_channel_reader_lengths, 8, .inl r_this_processor_channel_reader_lengths)), (a_this_processor_channel_reader_queue, .inl (k_this_processor_channel_reader_queue, 128, .inl r_this_processor_channel_reader_queue)), (a_this_processor_channel_reader_record, .inl (k_this_processor_channel_reader_record, 16, .inl w_6.2.2.2.2.1)), (a_this_processor_storage, oX6 a_this_processor_storage_bytes a_this_processor_storage_keys), (a_this_processor_storage_bytes, .inl (k_this_processor_storage_bytes, 2048, .inl w_6.2.2.2.2.2)), (a_this_processor_storage_keys, .inl (k_this_processor_storage_keys, 8, .inl r_this_processor_storage_keys))] H := hP
              have hD : va_D A [(a_this, oX7 a_this_processor), (a_this_processor, oX3 a_this_processor_storage a_this_processor_status a_this_processor_channel a_this_processor_registers a_this_processor_first a_this_processor_second o_this_processor), (a_this_processor_channel, oX0 a_this_processor_channel_reader a_this_processor_channel_printer w_6.1), (a_this_processor_channel_printer, oX2 a_this_processor_channel_printer_line w_6.2.1), (a_this_processor_channel_printer_line, .inl (k_this_processor_channel_printer_line, 32, .inl w_6.2.2.1)), (a_this_processor_channel_reader, oX4 a_this_processor_channel_reader_making a_this_processor_channel_reader_queue a_this_processor_channel_reader_lengths a_this_processor_channel_reader_record w_6.2.2.2.1), (a_this_processor_channel_reader_lengths, .inl (k_this_processor_channel_reader_lengths, 8, .inl r_this_processor_channel_reader_lengths)), (a_this_processor_channel_reader_queue, .inl (k_this_processor_channel_reader_queue, 128, .inl r_this_processor_channel_reader_queue)), (a_this_processor_channel_reader_record, .inl (k_this_processor_channel_reader_record, 16, .inl w_6.2.2.2.2.1)), (a_this_processor_storage, oX6 a_this_processor_storage_bytes a_this_processor_storage_keys), (a_this_processor_storage_bytes, .inl (k_this_processor_storage_bytes, 2048, .inl w_6.2.2.2.2.2)), (a_this_processor_storage_keys, .inl (k_this_processor_storage_keys, 8, .inl r_this_processor_storage_keys))] := hD
              rw [q_let_of hw] at hF
              refine lv_iinc (v := (x2 + (1 : Int32))) (lv' := [(2, .int (x2 + (1 : Int32))), (0, .ref a_this), (1, .int p1)]) hx hb dX7_channel_50 hl (k := 0) rfl rfl (by decide) rfl (fun ls hl => ?_)
              refine lv_goto (tgt := 15) hx hb dX7_channel_53 (by decide) ?_
              exact ih w_6.1 w_6.2.1 w_6.2.2.1 w_6.2.2.2.1 w_6.2.2.2.2.1 w_6.2.2.2.2.2 (x2 + (1 : Int32)) _ _ _ (by first | exact q_up hm hfq | exact q_up hm c_1 | exact q_up hm c_2 | exact q_up hm c_4 | exact q_up hm c_5)  hP hD hS (lv_sub hl [0, 1, 2] rfl) hF
      exact L15 (((p1 : Int32).toInt - (0 : Int32).toInt).toNat + 1) o_this_processor_channel o_this_processor_channel_printer r_this_processor_channel_printer_line o_this_processor_channel_reader r_this_processor_channel_reader_record r_this_processor_storage_bytes 0 _ _ _ (Nat.lt_succ_self _)  hP hD hS (lv_sub hl [0, 1, 2] rfl) hF
    · skip
      rw [if_neg c_2] at hF
      refine lv_iconst (v := (-1)) hx hb dX7_channel_11 (by decide) ?_
      exact hQ (-1) ((-1), o_this_processor_channel, o_this_processor_channel_printer, r_this_processor_channel_printer_line, o_this_processor_channel_reader, r_this_processor_channel_reader_record, r_this_processor_storage_bytes) _ _ _ _ dX7_channel_12 ⟨hF.symm, rfl⟩ hP hD hS
theorem cv_X7_channel : qV yX7_channel cX7_channel 3 (some .int) 1 := ⟨kc_X7_channel, kt_X7_channel, ks_X7_channel, kn_X7, by decide, by decide +kernel⟩
def f_X7_look (o_this_processor : Bool × Int32 × Int32 × Int32 × Int32 × Int32 × Int32 × Int32 × Int32 × Int32) (o_this_processor_channel : Bool × Bool × Int32 × Int32 × Int32 × Bool × Bool × Bool × Int32 × Int32 × Int32 × Int32 × Int32) (o_this_processor_channel_printer : Int32 × Int32) (o_this_processor_channel_reader : Int32 × Int32 × Int32 × Int32 × Int32) (p1 : Int32) : Int32 := (if p1 = (0 : Int32) then (if o_this_processor_channel.1 = true then 1 else 0) else (if p1 = (1 : Int32) then (if o_this_processor_channel.2.1 = true then 1 else 0) else (if p1 = (2 : Int32) then (if o_this_processor.1 = true then 1 else 0) else (if p1 = (3 : Int32) then o_this_processor_channel_reader.2.2.1 else (if p1 = (4 : Int32) then o_this_processor_channel_printer.1 else (if p1 = (5 : Int32) then o_this_processor_channel_printer.2 else (if p1 = (6 : Int32) then o_this_processor.2.1 else (if p1 = (7 : Int32) then o_this_processor.2.2.2.1 else (-1)))))))))
set_option linter.all false in
set_option maxHeartbeats 4000000 in
set_option maxRecDepth 100000 in
theorem c_X7_look (l : Launch) (D : va_G) (a_this a_this_processor a_this_processor_channel a_this_processor_channel_printer a_this_processor_channel_reader a_this_processor_storage a_this_processor_status a_this_processor_registers a_this_processor_first a_this_processor_second a_this_processor_channel_printer_line a_this_processor_channel_reader_making a_this_processor_channel_reader_queue a_this_processor_channel_reader_lengths a_this_processor_channel_reader_record : Nat) (o_this_processor : Bool × Int32 × Int32 × Int32 × Int32 × Int32 × Int32 × Int32 × Int32 × Int32) (o_this_processor_channel : Bool × Bool × Int32 × Int32 × Int32 × Bool × Bool × Bool × Int32 × Int32 × Int32 × Int32 × Int32) (o_this_processor_channel_printer : Int32 × Int32) (o_this_processor_channel_reader : Int32 × Int32 × Int32 × Int32 × Int32) (p1 : Int32) : CtI l yX7_look cX7_look 3 (some .int) { frames := 0, cells := 0, slots := 0, locals := 0 } D [.ref a_this, .int p1] [(a_this, oX7 a_this_processor), (a_this_processor, oX3 a_this_processor_storage a_this_processor_status a_this_processor_channel a_this_processor_registers a_this_processor_first a_this_processor_second o_this_processor), (a_this_processor_channel, oX0 a_this_processor_channel_reader a_this_processor_channel_printer o_this_processor_channel), (a_this_processor_channel_printer, oX2 a_this_processor_channel_printer_line o_this_processor_channel_printer), (a_this_processor_channel_reader, oX4 a_this_processor_channel_reader_making a_this_processor_channel_reader_queue a_this_processor_channel_reader_lengths a_this_processor_channel_reader_record o_this_processor_channel_reader)] [] (fun (r : Int32) (u : Int32) => f_X7_look o_this_processor o_this_processor_channel o_this_processor_channel_printer o_this_processor_channel_reader p1 = u ∧ r = u) (fun u => [(a_this, oX7 a_this_processor), (a_this_processor, oX3 a_this_processor_storage a_this_processor_status a_this_processor_channel a_this_processor_registers a_this_processor_first a_this_processor_second o_this_processor), (a_this_processor_channel, oX0 a_this_processor_channel_reader a_this_processor_channel_printer o_this_processor_channel), (a_this_processor_channel_printer, oX2 a_this_processor_channel_printer_line o_this_processor_channel_printer), (a_this_processor_channel_reader, oX4 a_this_processor_channel_reader_making a_this_processor_channel_reader_queue a_this_processor_channel_reader_lengths a_this_processor_channel_reader_record o_this_processor_channel_reader)]) := by
  refine CtI.of (by decide) (Nat.le_of_ble_eq_true rfl) ?_
  intro p e s m below meth c A ls Q hE hP hD hS hl hQ
  obtain ⟨hx, hb, hml, hown, ht, hN, hK, hA⟩ := hE
  have hown : s.vm.findClass RX7 = some m.cls := hown
  have hl : lv_has ls 3 [(0, .ref a_this), (1, .int p1)] := hl
  obtain ⟨F, hF⟩ : ∃ F, f_X7_look o_this_processor o_this_processor_channel o_this_processor_channel_printer o_this_processor_channel_reader p1 = F := ⟨_, rfl⟩
  rw [hF] at hQ
  unfold f_X7_look at hF
  refine lv_aload_n hx hb dX7_look_0 rfl (lv_at hl 0 rfl) ?_
  refine gf_X7_10 (v := .ref a_this_processor) hx hb hown ht hK hP 0 rfl rfl dX7_look_1 ?_
  refine gf_X7_62 (v := .ref a_this_processor_channel) hx hb hown ht hK hP 1 rfl rfl dX7_look_4 ?_
  refine lv_astore_n (lv' := [(2, .ref a_this_processor_channel), (0, .ref a_this), (1, .int p1)]) hx hb dX7_look_7 rfl hl (by decide) rfl (fun ls hl => ?_)
  refine lv_iload_n hx hb dX7_look_8 rfl (lv_at hl 2 rfl) ?_
  rcases Classical.em (p1 = (0 : Int32)) with c_1 | c_1
  · rw [if_pos c_1] at hF
    refine lv_tableIn (off := 47) (tgt := 56) hx hb dX7_look_9 (by rw [c_1]; decide) (by rw [c_1]; decide) (by rw [c_1]; decide) (by decide) ?_
    refine lv_aload_n hx hb dX7_look_56 rfl (lv_at hl 0 rfl) ?_
    refine gf_X7_93 (v := .int (bI o_this_processor_channel.1)) hx hb hown ht hK hP 2 rfl rfl dX7_look_57 ?_
    refine lv_if_eq (tgt := 67) hx hb dX7_look_60 (by decide) (fun c_2 => ?_) (fun c_2 => ?_)
    · have c_2 : ¬ o_this_processor_channel.1 = true := by rw [(bI_eq0 _).mp c_2]; decide
      rw [if_neg c_2] at hF
      refine lv_iconst (v := 0) hx hb dX7_look_67 (by decide) ?_
      exact hQ 0 0 _ _ _ _ dX7_look_68 ⟨hF.symm, rfl⟩ hP hD hS
    · have c_2 := (bI_ne0 _).mp c_2
      rw [if_pos c_2] at hF
      refine lv_iconst (v := 1) hx hb dX7_look_63 (by decide) ?_
      refine lv_goto (tgt := 68) hx hb dX7_look_64 (by decide) ?_
      exact hQ 1 1 _ _ _ _ dX7_look_68 ⟨hF.symm, rfl⟩ hP hD hS
  · rw [if_neg c_1] at hF
    rcases Classical.em (p1 = (1 : Int32)) with c_3 | c_3
    · rw [if_pos c_3] at hF
      refine lv_tableIn (off := 60) (tgt := 69) hx hb dX7_look_9 (by rw [c_3]; decide) (by rw [c_3]; decide) (by rw [c_3]; decide) (by decide) ?_
      refine lv_aload_n hx hb dX7_look_69 rfl (lv_at hl 0 rfl) ?_
      refine gf_X7_101 (v := .int (bI o_this_processor_channel.2.1)) hx hb hown ht hK hP 2 rfl rfl dX7_look_70 ?_
      refine lv_if_eq (tgt := 80) hx hb dX7_look_73 (by decide) (fun c_4 => ?_) (fun c_4 => ?_)
      · have c_4 : ¬ o_this_processor_channel.2.1 = true := by rw [(bI_eq0 _).mp c_4]; decide
        rw [if_neg c_4] at hF
        refine lv_iconst (v := 0) hx hb dX7_look_80 (by decide) ?_
        exact hQ 0 0 _ _ _ _ dX7_look_81 ⟨hF.symm, rfl⟩ hP hD hS
      · have c_4 := (bI_ne0 _).mp c_4
        rw [if_pos c_4] at hF
        refine lv_iconst (v := 1) hx hb dX7_look_76 (by decide) ?_
        refine lv_goto (tgt := 81) hx hb dX7_look_77 (by decide) ?_
        exact hQ 1 1 _ _ _ _ dX7_look_81 ⟨hF.symm, rfl⟩ hP hD hS
    · rw [if_neg c_3] at hF
      rcases Classical.em (p1 = (2 : Int32)) with c_5 | c_5
      · rw [if_pos c_5] at hF
        refine lv_tableIn (off := 73) (tgt := 82) hx hb dX7_look_9 (by rw [c_5]; decide) (by rw [c_5]; decide) (by rw [c_5]; decide) (by decide) ?_
        refine lv_aload_n hx hb dX7_look_82 rfl (lv_at hl 1 rfl) ?_
        refine gf_X7_10 (v := .ref a_this_processor) hx hb hown ht hK hP 0 rfl rfl dX7_look_83 ?_
        refine gf_X7_104 (v := .int (bI o_this_processor.1)) hx hb hown ht hK hP 1 rfl rfl dX7_look_86 ?_
        refine lv_if_eq (tgt := 96) hx hb dX7_look_89 (by decide) (fun c_6 => ?_) (fun c_6 => ?_)
        · have c_6 : ¬ o_this_processor.1 = true := by rw [(bI_eq0 _).mp c_6]; decide
          rw [if_neg c_6] at hF
          refine lv_iconst (v := 0) hx hb dX7_look_96 (by decide) ?_
          exact hQ 0 0 _ _ _ _ dX7_look_97 ⟨hF.symm, rfl⟩ hP hD hS
        · have c_6 := (bI_ne0 _).mp c_6
          rw [if_pos c_6] at hF
          refine lv_iconst (v := 1) hx hb dX7_look_92 (by decide) ?_
          refine lv_goto (tgt := 97) hx hb dX7_look_93 (by decide) ?_
          exact hQ 1 1 _ _ _ _ dX7_look_97 ⟨hF.symm, rfl⟩ hP hD hS
      · rw [if_neg c_5] at hF
        rcases Classical.em (p1 = (3 : Int32)) with c_7 | c_7
        · rw [if_pos c_7] at hF
          refine lv_tableIn (off := 89) (tgt := 98) hx hb dX7_look_9 (by rw [c_7]; decide) (by rw [c_7]; decide) (by rw [c_7]; decide) (by decide) ?_
          refine lv_aload_n hx hb dX7_look_98 rfl (lv_at hl 0 rfl) ?_
          refine gf_X7_66 (v := .ref a_this_processor_channel_reader) hx hb hown ht hK hP 2 rfl rfl dX7_look_99 ?_
          refine gf_X7_107 (v := .int o_this_processor_channel_reader.2.2.1) hx hb hown ht hK hP 4 rfl rfl dX7_look_102 ?_
          exact hQ o_this_processor_channel_reader.2.2.1 o_this_processor_channel_reader.2.2.1 _ _ _ _ dX7_look_105 ⟨hF.symm, rfl⟩ hP hD hS
        · rw [if_neg c_7] at hF
          rcases Classical.em (p1 = (4 : Int32)) with c_8 | c_8
          · rw [if_pos c_8] at hF
            refine lv_tableIn (off := 97) (tgt := 106) hx hb dX7_look_9 (by rw [c_8]; decide) (by rw [c_8]; decide) (by rw [c_8]; decide) (by decide) ?_
            refine lv_aload_n hx hb dX7_look_106 rfl (lv_at hl 0 rfl) ?_
            refine gf_X7_110 (v := .ref a_this_processor_channel_printer) hx hb hown ht hK hP 2 rfl rfl dX7_look_107 ?_
            refine gf_X7_114 (v := .int o_this_processor_channel_printer.1) hx hb hown ht hK hP 3 rfl rfl dX7_look_110 ?_
            exact hQ o_this_processor_channel_printer.1 o_this_processor_channel_printer.1 _ _ _ _ dX7_look_113 ⟨hF.symm, rfl⟩ hP hD hS
          · rw [if_neg c_8] at hF
            rcases Classical.em (p1 = (5 : Int32)) with c_9 | c_9
            · rw [if_pos c_9] at hF
              refine lv_tableIn (off := 105) (tgt := 114) hx hb dX7_look_9 (by rw [c_9]; decide) (by rw [c_9]; decide) (by rw [c_9]; decide) (by decide) ?_
              refine lv_aload_n hx hb dX7_look_114 rfl (lv_at hl 0 rfl) ?_
              refine gf_X7_110 (v := .ref a_this_processor_channel_printer) hx hb hown ht hK hP 2 rfl rfl dX7_look_115 ?_
              refine gf_X7_119 (v := .int o_this_processor_channel_printer.2) hx hb hown ht hK hP 3 rfl rfl dX7_look_118 ?_
              exact hQ o_this_processor_channel_printer.2 o_this_processor_channel_printer.2 _ _ _ _ dX7_look_121 ⟨hF.symm, rfl⟩ hP hD hS
            · rw [if_neg c_9] at hF
              rcases Classical.em (p1 = (6 : Int32)) with c_10 | c_10
              · rw [if_pos c_10] at hF
                refine lv_tableIn (off := 113) (tgt := 122) hx hb dX7_look_9 (by rw [c_10]; decide) (by rw [c_10]; decide) (by rw [c_10]; decide) (by decide) ?_
                refine lv_aload_n hx hb dX7_look_122 rfl (lv_at hl 1 rfl) ?_
                refine gf_X7_10 (v := .ref a_this_processor) hx hb hown ht hK hP 0 rfl rfl dX7_look_123 ?_
                refine gf_X7_122 (v := .int o_this_processor.2.1) hx hb hown ht hK hP 1 rfl rfl dX7_look_126 ?_
                exact hQ o_this_processor.2.1 o_this_processor.2.1 _ _ _ _ dX7_look_129 ⟨hF.symm, rfl⟩ hP hD hS
              · rw [if_neg c_10] at hF
                rcases Classical.em (p1 = (7 : Int32)) with c_11 | c_11
                · rw [if_pos c_11] at hF
                  refine lv_tableIn (off := 121) (tgt := 130) hx hb dX7_look_9 (by rw [c_11]; decide) (by rw [c_11]; decide) (by rw [c_11]; decide) (by decide) ?_
                  refine lv_aload_n hx hb dX7_look_130 rfl (lv_at hl 1 rfl) ?_
                  refine gf_X7_10 (v := .ref a_this_processor) hx hb hown ht hK hP 0 rfl rfl dX7_look_131 ?_
                  refine gf_X7_125 (v := .int o_this_processor.2.2.2.1) hx hb hown ht hK hP 1 rfl rfl dX7_look_134 ?_
                  exact hQ o_this_processor.2.2.2.1 o_this_processor.2.2.2.1 _ _ _ _ dX7_look_137 ⟨hF.symm, rfl⟩ hP hD hS
                · rw [if_neg c_11] at hF
                  have hsw : (p1).toInt < 0 ∨ 7 < (p1).toInt := by
                    have e0 := lv_neT c_1 (a := 0) (by decide)
                    have e1 := lv_neT c_3 (a := 1) (by decide)
                    have e2 := lv_neT c_5 (a := 2) (by decide)
                    have e3 := lv_neT c_7 (a := 3) (by decide)
                    have e4 := lv_neT c_8 (a := 4) (by decide)
                    have e5 := lv_neT c_9 (a := 5) (by decide)
                    have e6 := lv_neT c_10 (a := 6) (by decide)
                    have e7 := lv_neT c_11 (a := 7) (by decide)
                    omega
                  refine lv_tableOut (tgt := 138) hx hb dX7_look_9 hsw (by decide) ?_
                  refine lv_iconst (v := (-1)) hx hb dX7_look_138 (by decide) ?_
                  exact hQ (-1) (-1) _ _ _ _ dX7_look_139 ⟨hF.symm, rfl⟩ hP hD hS
theorem cv_X7_look : qV yX7_look cX7_look 3 (some .int) 1 := ⟨kc_X7_look, kt_X7_look, ks_X7_look, kn_X7, by decide, by decide +kernel⟩
def f_X7_printed (o_this_processor_channel_printer : Int32 × Int32) (r_this_processor_channel_printer_line : Nat → Int32) (p1 : Int32) : Int32 := (f_X2_byteOfLine o_this_processor_channel_printer r_this_processor_channel_printer_line p1)
set_option linter.all false in
set_option maxHeartbeats 4000000 in
set_option maxRecDepth 100000 in
theorem c_X7_printed (l : Launch) (D : va_G) (a_this a_this_processor a_this_processor_channel a_this_processor_channel_printer a_this_processor_channel_printer_line a_this_processor_storage a_this_processor_status a_this_processor_registers a_this_processor_first a_this_processor_second a_this_processor_channel_reader : Nat) (k_this_processor_channel_printer_line : ClassId) (o_this_processor : Bool × Int32 × Int32 × Int32 × Int32 × Int32 × Int32 × Int32 × Int32 × Int32) (o_this_processor_channel : Bool × Bool × Int32 × Int32 × Int32 × Bool × Bool × Bool × Int32 × Int32 × Int32 × Int32 × Int32) (o_this_processor_channel_printer : Int32 × Int32) (r_this_processor_channel_printer_line : Nat → Int32) (p1 : Int32) : CtI l yX7_printed cX7_printed 2 (some .int) { frames := 1, cells := 0, slots := 0, locals := 21 } D [.ref a_this, .int p1] [(a_this, oX7 a_this_processor), (a_this_processor, oX3 a_this_processor_storage a_this_processor_status a_this_processor_channel a_this_processor_registers a_this_processor_first a_this_processor_second o_this_processor), (a_this_processor_channel, oX0 a_this_processor_channel_reader a_this_processor_channel_printer o_this_processor_channel), (a_this_processor_channel_printer, oX2 a_this_processor_channel_printer_line o_this_processor_channel_printer), (a_this_processor_channel_printer_line, .inl (k_this_processor_channel_printer_line, 32, .inl r_this_processor_channel_printer_line))] [(k_this_processor_channel_printer_line, .byte)] (fun (r : Int32) (u : Int32) => f_X7_printed o_this_processor_channel_printer r_this_processor_channel_printer_line p1 = u ∧ r = u) (fun u => [(a_this, oX7 a_this_processor), (a_this_processor, oX3 a_this_processor_storage a_this_processor_status a_this_processor_channel a_this_processor_registers a_this_processor_first a_this_processor_second o_this_processor), (a_this_processor_channel, oX0 a_this_processor_channel_reader a_this_processor_channel_printer o_this_processor_channel), (a_this_processor_channel_printer, oX2 a_this_processor_channel_printer_line o_this_processor_channel_printer), (a_this_processor_channel_printer_line, .inl (k_this_processor_channel_printer_line, 32, .inl r_this_processor_channel_printer_line))]) := by
  refine CtI.of (by decide) (Nat.le_of_ble_eq_true rfl) ?_
  intro p e s m below meth c A ls Q hE hP hD hS hl hQ
  obtain ⟨hx, hb, hml, hown, ht, hN, hK, hA⟩ := hE
  have hown : s.vm.findClass RX7 = some m.cls := hown
  have hl : lv_has ls 2 [(0, .ref a_this), (1, .int p1)] := hl
  obtain ⟨F, hF⟩ : ∃ F, f_X7_printed o_this_processor_channel_printer r_this_processor_channel_printer_line p1 = F := ⟨_, rfl⟩
  rw [hF] at hQ
  unfold f_X7_printed at hF
  refine lv_aload_n hx hb dX7_printed_0 rfl (lv_at hl 0 rfl) ?_
  refine gf_X7_10 (v := .ref a_this_processor) hx hb hown ht hK hP 0 rfl rfl dX7_printed_1 ?_
  refine gf_X7_62 (v := .ref a_this_processor_channel) hx hb hown ht hK hP 1 rfl rfl dX7_printed_4 ?_
  refine gf_X7_110 (v := .ref a_this_processor_channel_printer) hx hb hown ht hK hP 2 rfl rfl dX7_printed_7 ?_
  refine lv_iload_n hx hb dX7_printed_10 rfl (lv_at hl 1 rfl) ?_
  refine q_Vi (rest := []) (c_X2_byteOfLine l D a_this_processor_channel_printer a_this_processor_channel_printer_line k_this_processor_channel_printer_line o_this_processor_channel_printer r_this_processor_channel_printer_line p1) cv_X2_byteOfLine hx hb hml hown ht hN hK hA hP hD hS hl.1 (km_X7_128) ⟨Nat.le_of_ble_eq_true rfl, Nat.le_of_ble_eq_true rfl⟩ rfl rfl [3, 4] (by decide) rfl [0] rfl (fun _ => rfl) (ci := 2) rfl rfl rfl rfl rfl (Nat.le_of_ble_eq_true rfl) dX7_printed_11 ⟨Nat.zero_le _, Nat.zero_le _⟩ (fun r u H locs hw hP hD hS => ?_)
  obtain ⟨rfl, rfl⟩ := hw
  have hP : va_P D vwCl [(a_this, oX7 a_this_processor), (a_this_processor, oX3 a_this_processor_storage a_this_processor_status a_this_processor_channel a_this_processor_registers a_this_processor_first a_this_processor_second o_this_processor), (a_this_processor_channel, oX0 a_this_processor_channel_reader a_this_processor_channel_printer o_this_processor_channel), (a_this_processor_channel_printer, oX2 a_this_processor_channel_printer_line o_this_processor_channel_printer), (a_this_processor_channel_printer_line, .inl (k_this_processor_channel_printer_line, 32, .inl r_this_processor_channel_printer_line))] H := hP
  have hD : va_D A [(a_this, oX7 a_this_processor), (a_this_processor, oX3 a_this_processor_storage a_this_processor_status a_this_processor_channel a_this_processor_registers a_this_processor_first a_this_processor_second o_this_processor), (a_this_processor_channel, oX0 a_this_processor_channel_reader a_this_processor_channel_printer o_this_processor_channel), (a_this_processor_channel_printer, oX2 a_this_processor_channel_printer_line o_this_processor_channel_printer), (a_this_processor_channel_printer_line, .inl (k_this_processor_channel_printer_line, 32, .inl r_this_processor_channel_printer_line))] := hD
  exact hQ (f_X2_byteOfLine o_this_processor_channel_printer r_this_processor_channel_printer_line p1) (f_X2_byteOfLine o_this_processor_channel_printer r_this_processor_channel_printer_line p1) _ _ _ _ dX7_printed_14 ⟨hF.symm, rfl⟩ hP hD hS
theorem cv_X7_printed : qV yX7_printed cX7_printed 2 (some .int) 1 := ⟨kc_X7_printed, kt_X7_printed, ks_X7_printed, kn_X7, by decide, by decide +kernel⟩
