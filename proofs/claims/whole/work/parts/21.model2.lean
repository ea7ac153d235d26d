
def f_X8_control (o_this : Int32 × Int32 × Int32 × Int32 × Bool × Bool × Int32 × Int32 × Int32 × Int32 × Bool × Bool × Bool × Int32 × Int32 × Int32 × Int32 × Int32 × Int32 × Int32 × Int32 × Int32 × Int32 × Int32 × Int32) (r_this_bytes : Nat → Int32) (r_this_keys : Nat → Int32) (r_this_reg : Nat → Int32) (p1 : Int32) (p2 : Int32) (p3 : Int32) : (Int32 × Int32 × Int32 × Int32 × Bool × Bool × Int32 × Int32 × Int32 × Int32 × Bool × Bool × Bool × Int32 × Int32 × Int32 × Int32 × Int32 × Int32 × Int32 × Int32 × Int32 × Int32 × Int32 × Int32) × (Nat → Int32) × (Nat → Int32) × (Nat → Int32) := (if p1 = (5 : Int32) then (if p3 ≤ 0 then (o_this, r_this_bytes, r_this_keys, (upd r_this_reg p2.toNatClampNeg o_this.2.2.2.1)) else (q_let (f_X8_go o_this (r_this_reg p3.toNatClampNeg)) fun w_5 => (w_5, r_this_bytes, r_this_keys, (upd r_this_reg p2.toNatClampNeg o_this.2.2.2.1)))) else (if p1 = (6 : Int32) then (q_let (f_X8_interrupt o_this r_this_bytes 32 96 (((16 : Int32) * p2) + p3)) fun w_8 => (w_8.1, w_8.2, r_this_keys, r_this_reg)) else (if p1 = (7 : Int32) then (if p3 ≤ 0 then (o_this, r_this_bytes, r_this_keys, r_this_reg) else (if (f_X8_holds o_this p2) = true then (q_let (f_X8_go o_this (r_this_reg p3.toNatClampNeg)) fun w_13 => (w_13, r_this_bytes, r_this_keys, r_this_reg)) else (o_this, r_this_bytes, r_this_keys, r_this_reg))) else (if p1 = (8 : Int32) then (o_this, r_this_bytes, (upd r_this_keys (((r_this_reg p3.toNatClampNeg) &&& (2047 : Int32)) / (256 : Int32)).toNatClampNeg (((r_this_reg p2.toNatClampNeg) >>> ((4 : Int32) &&& 31)) &&& (15 : Int32))), r_this_reg) else (if p1 = (9 : Int32) then (o_this, r_this_bytes, r_this_keys, (upd r_this_reg p2.toNatClampNeg (((r_this_reg p2.toNatClampNeg) &&& ((-256) : Int32)) + ((16 : Int32) * (r_this_keys (((r_this_reg p3.toNatClampNeg) &&& (2047 : Int32)) / (256 : Int32)).toNatClampNeg))))) else (q_let (f_X8_interrupt o_this r_this_bytes 32 96 (((16 : Int32) * p2) + p3)) fun w_22 => (w_22.1, w_22.2, r_this_keys, r_this_reg)))))))
def s_X8_control (o_this : Int32 × Int32 × Int32 × Int32 × Bool × Bool × Int32 × Int32 × Int32 × Int32 × Bool × Bool × Bool × Int32 × Int32 × Int32 × Int32 × Int32 × Int32 × Int32 × Int32 × Int32 × Int32 × Int32 × Int32) (r_this_bytes : Nat → Int32) (r_this_reg : Nat → Int32) (p1 : Int32) (p2 : Int32) (p3 : Int32) : Prop := (vp_in p3 16 ∧ (if p1 = (5 : Int32) then vp_in p2 16 else (if p1 = (6 : Int32) then s_X8_interrupt o_this r_this_bytes 32 96 (((16 : Int32) * p2) + p3) else (if p1 = (7 : Int32) then True else (if p1 = (8 : Int32) then (vp_in p2 16 ∧ vp_in (((r_this_reg p3.toNatClampNeg) &&& (2047 : Int32)) / (256 : Int32)) 8) else (if p1 = (9 : Int32) then (vp_in p2 16 ∧ (vp_in (((r_this_reg p3.toNatClampNeg) &&& (2047 : Int32)) / (256 : Int32)) 8 ∧ vp_in p2 16)) else s_X8_interrupt o_this r_this_bytes 32 96 (((16 : Int32) * p2) + p3)))))))
set_option linter.all false in
set_option maxHeartbeats 4000000 in
set_option maxRecDepth 100000 in
theorem c_X8_control (l : Launch) (D : va_G) (a_this a_this_bytes a_this_keys a_this_reg a_this_card a_this_filled a_this_taken a_this_line a_this_one a_this_two : Nat) (k_this_bytes k_this_keys k_this_reg : ClassId) (o_this : Int32 × Int32 × Int32 × Int32 × Bool × Bool × Int32 × Int32 × Int32 × Int32 × Bool × Bool × Bool × Int32 × Int32 × Int32 × Int32 × Int32 × Int32 × Int32 × Int32 × Int32 × Int32 × Int32 × Int32) (r_this_bytes : Nat → Int32) (r_this_keys : Nat → Int32) (r_this_reg : Nat → Int32) (p1 : Int32) (p2 : Int32) (p3 : Int32) (hs : s_X8_control o_this r_this_bytes r_this_reg p1 p2 p3) : CtV l yX8_control cX8_control 6 none { frames := 3, cells := 0, slots := 0, locals := 68 } D [.ref a_this, .int p1, .int p2, .int p3] [(a_this, oX8 a_this_bytes a_this_keys a_this_reg a_this_card a_this_filled a_this_taken a_this_line a_this_one a_this_two o_this), (a_this_bytes, .inl (k_this_bytes, 2048, .inl r_this_bytes)), (a_this_keys, .inl (k_this_keys, 8, .inl r_this_keys)), (a_this_reg, .inl (k_this_reg, 16, .inl r_this_reg))] [(k_this_bytes, .int), (k_this_keys, .int), (k_this_reg, .int)] (fun (u : (Int32 × Int32 × Int32 × Int32 × Bool × Bool × Int32 × Int32 × Int32 × Int32 × Bool × Bool × Bool × Int32 × Int32 × Int32 × Int32 × Int32 × Int32 × Int32 × Int32 × Int32 × Int32 × Int32 × Int32) × (Nat → Int32) × (Nat → Int32) × (Nat → Int32)) => f_X8_control o_this r_this_bytes r_this_keys r_this_reg p1 p2 p3 = u) (fun u => [(a_this, oX8 a_this_bytes a_this_keys a_this_reg a_this_card a_this_filled a_this_taken a_this_line a_this_one a_this_two u.1), (a_this_bytes, .inl (k_this_bytes, 2048, .inl u.2.1)), (a_this_keys, .inl (k_this_keys, 8, .inl u.2.2.1)), (a_this_reg, .inl (k_this_reg, 16, .inl u.2.2.2))]) := by
  refine CtV.of (by decide) (Nat.le_of_ble_eq_true rfl) ?_
  intro p e s m below meth c A ls Q hE hP hD hS hl hQ
  obtain ⟨hx, hb, hml, hown, ht, hN, hK, hA⟩ := hE
  have hown : s.vm.findClass RX8 = some m.cls := hown
  have hl : lv_has ls 6 [(0, .ref a_this), (1, .int p1), (2, .int p2), (3, .int p3)] := hl
  obtain ⟨F, hF⟩ : ∃ F, f_X8_control o_this r_this_bytes r_this_keys r_this_reg p1 p2 p3 = F := ⟨_, rfl⟩
  rw [hF] at hQ
  unfold f_X8_control at hF
  unfold s_X8_control at hs
  refine lv_aload_n hx hb dX8_control_0 rfl (lv_at hl 0 rfl) ?_
  refine gf_X8_16 (v := .ref a_this_reg) hx hb hown ht hK hP 0 rfl rfl dX8_control_1 ?_
  refine lv_iload_n hx hb dX8_control_4 rfl (lv_at hl 3 rfl) ?_
  obtain ⟨hi_1, hs⟩ := hs
  refine va_iald hx hb hK hP 3 2 rfl rfl hi_1 dX8_control_5 ?_
  refine lv_istore (lv' := [(4, .int (r_this_reg p3.toNatClampNeg)), (0, .ref a_this), (1, .int p1), (2, .int p2), (3, .int p3)]) hx hb dX8_control_6 hl (by decide) rfl (fun ls hl => ?_)
  refine lv_iload hx hb dX8_control_8 (lv_at hl 0 rfl) ?_
  refine lv_sipush (v := 2047) hx hb dX8_control_10 (by decide) ?_
  refine lv_iand hx hb dX8_control_13 ?_
  refine lv_sipush (v := 256) hx hb dX8_control_14 (by decide) ?_
  refine lv_idiv hx hb dX8_control_17 (by decide) ?_
  refine lv_istore (lv' := [(5, .int (((r_this_reg p3.toNatClampNeg) &&& (2047 : Int32)) / (256 : Int32))), (4, .int (r_this_reg p3.toNatClampNeg)), (0, .ref a_this), (1, .int p1), (2, .int p2), (3, .int p3)]) hx hb dX8_control_18 hl (by decide) rfl (fun ls hl => ?_)
  refine lv_iload_n hx hb dX8_control_20 rfl (lv_at hl 3 rfl) ?_
  rcases Classical.em (p1 = (5 : Int32)) with c_2 | c_2
  · rw [if_pos c_2] at hF
    rw [if_pos c_2] at hs
    refine lv_tableIn (off := 35) (tgt := 56) hx hb dX8_control_21 (by rw [c_2]; decide) (by rw [c_2]; decide) (by rw [c_2]; decide) (by decide) ?_
    refine lv_aload_n hx hb dX8_control_56 rfl (lv_at hl 2 rfl) ?_
    refine gf_X8_16 (v := .ref a_this_reg) hx hb hown ht hK hP 0 rfl rfl dX8_control_57 ?_
    refine lv_iload_n hx hb dX8_control_60 rfl (lv_at hl 4 rfl) ?_
    refine lv_aload_n hx hb dX8_control_61 rfl (lv_at hl 2 rfl) ?_
    refine gf_X8_59 (v := .int o_this.2.2.2.1) hx hb hown ht hK hP 0 rfl rfl dX8_control_62 ?_
    have hi_3 := hs
    refine va_iast hx hb hK hP hD hS 3 2 rfl rfl hi_3 dX8_control_65 (fun H locs hP hD hS => ?_)
    have hP : va_P D vwCl [(a_this, oX8 a_this_bytes a_this_keys a_this_reg a_this_card a_this_filled a_this_taken a_this_line a_this_one a_this_two o_this), (a_this_bytes, .inl (k_this_bytes, 2048, .inl r_this_bytes)), (a_this_keys, .inl (k_this_keys, 8, .inl r_this_keys)), (a_this_reg, .inl (k_this_reg, 16, .inl (upd r_this_reg p2.toNatClampNeg o_this.2.2.2.1)))] H := hP
    have hD : va_D A [(a_this, oX8 a_this_bytes a_this_keys a_this_reg a_this_card a_this_filled a_this_taken a_this_line a_this_one a_this_two o_this), (a_this_bytes, .inl (k_this_bytes, 2048, .inl r_this_bytes)), (a_this_keys, .inl (k_this_keys, 8, .inl r_this_keys)), (a_this_reg, .inl (k_this_reg, 16, .inl (upd r_this_reg p2.toNatClampNeg o_this.2.2.2.1)))] := hD
    refine lv_iload_n hx hb dX8_control_66 rfl (lv_at hl 5 rfl) ?_
    refine lv_if_le (tgt := 76) hx hb dX8_control_67 (by decide) (fun c_4 => ?_) (fun c_4 => ?_)
    · skip
      rw [if_pos c_4] at hF
      exact hQ (o_this, r_this_bytes, r_this_keys, (upd r_this_reg p2.toNatClampNeg o_this.2.2.2.1)) _ _ _ _ dX8_control_76 hF.symm hP hD hS
    · skip
      rw [if_neg c_4] at hF
      refine lv_aload_n hx hb dX8_control_70 rfl (lv_at hl 2 rfl) ?_
      refine lv_iload hx hb dX8_control_71 (lv_at hl 1 rfl) ?_
      refine q_Vv (rest := []) (c_X8_go l D a_this a_this_bytes a_this_keys a_this_reg a_this_card a_this_filled a_this_taken a_this_line a_this_one a_this_two o_this (r_this_reg p3.toNatClampNeg)) cv_X8_go hx hb hml hown ht hN hK hA hP hD hS hl.1 (km_X8_142) ⟨Nat.le_of_ble_eq_true rfl, Nat.le_of_ble_eq_true rfl⟩ rfl rfl [0] (by decide) rfl [] rfl (fun _ => rfl) (ci := 8) rfl rfl rfl rfl rfl (Nat.le_of_ble_eq_true rfl) dX8_control_73 ⟨Nat.zero_le _, Nat.zero_le _⟩ (fun w_5 H locs hw hP hD hS => ?_)
      have hP : va_P D vwCl [(a_this, oX8 a_this_bytes a_this_keys a_this_reg a_this_card a_this_filled a_this_taken a_this_line a_this_one a_this_two w_5), (a_this_bytes, .inl (k_this_bytes, 2048, .inl r_this_bytes)), (a_this_keys, .inl (k_this_keys, 8, .inl r_this_keys)), (a_this_reg, .inl (k_this_reg, 16, .inl (upd r_this_reg p2.toNatClampNeg o_this.2.2.2.1)))] H := hP
      have hD : va_D A [(a_this, oX8 a_this_bytes a_this_keys a_this_reg a_this_card a_this_filled a_this_taken a_this_line a_this_one a_this_two w_5), (a_this_bytes, .inl (k_this_bytes, 2048, .inl r_this_bytes)), (a_this_keys, .inl (k_this_keys, 8, .inl r_this_keys)), (a_this_reg, .inl (k_this_reg, 16, .inl (upd r_this_reg p2.toNatClampNeg o_this.2.2.2.1)))] := hD
      rw [q_let_of hw] at hF
      exact hQ (w_5, r_this_bytes, r_this_keys, (upd r_this_reg p2.toNatClampNeg o_this.2.2.2.1)) _ _ _ _ dX8_control_76 hF.symm hP hD hS
  · rw [if_neg c_2] at hF
    rw [if_neg c_2] at hs
    rcases Classical.em (p1 = (6 : Int32)) with c_6 | c_6
    · rw [if_pos c_6] at hF
      rw [if_pos c_6] at hs
      refine lv_tableIn (off := 122) (tgt := 143) hx hb dX8_control_21 (by rw [c_6]; decide) (by rw [c_6]; decide) (by rw [c_6]; decide) (by decide) ?_
      refine lv_aload_n hx hb dX8_control_143 rfl (lv_at hl 2 rfl) ?_
      refine lv_bipush (v := 32) hx hb dX8_control_144 (by decide) ?_
      refine lv_bipush (v := 96) hx hb dX8_control_146 (by decide) ?_
      refine lv_bipush (v := 16) hx hb dX8_control_148 (by decide) ?_
      refine lv_iload_n hx hb dX8_control_150 rfl (lv_at hl 4 rfl) ?_
      refine lv_imul hx hb dX8_control_151 ?_
      refine lv_iload_n hx hb dX8_control_152 rfl (lv_at hl 5 rfl) ?_
      refine lv_iadd hx hb dX8_control_153 ?_
      have hi_7 := hs
      refine q_Vv (rest := []) (c_X8_interrupt l D a_this a_this_bytes a_this_keys a_this_reg a_this_card a_this_filled a_this_taken a_this_line a_this_one a_this_two k_this_bytes o_this r_this_bytes 32 96 (((16 : Int32) * p2) + p3) hi_7) cv_X8_interrupt hx hb hml hown ht hN hK hA hP hD hS hl.1 (km_X8_77) ⟨Nat.le_of_ble_eq_true rfl, Nat.le_of_ble_eq_true rfl⟩ rfl rfl [0, 1] (by decide) rfl [0] rfl (fun _ => rfl) (ci := 8) rfl rfl rfl rfl rfl (Nat.le_of_ble_eq_true rfl) dX8_control_154 ⟨Nat.zero_le _, Nat.zero_le _⟩ (fun w_8 H locs hw hP hD hS => ?_)
      have hP : va_P D vwCl [(a_this, oX8 a_this_bytes a_this_keys a_this_reg a_this_card a_this_filled a_this_taken a_this_line a_this_one a_this_two w_8.1), (a_this_bytes, .inl (k_this_bytes, 2048, .inl w_8.2)), (a_this_keys, .inl (k_this_keys, 8, .inl r_this_keys)), (a_this_reg, .inl (k_this_reg, 16, .inl r_this_reg))] H := hP
      have hD : va_D A [(a_this, oX8 a_this_bytes a_this_keys a_this_reg a_this_card a_this_filled a_this_taken a_this_line a_this_one a_this_two w_8.1), (a_this_bytes, .inl (k_this_bytes, 2048, .inl w_8.2)), (a_this_keys, .inl (k_this_keys, 8, .inl r_this_keys)), (a_this_reg, .inl (k_this_reg, 16, .inl r_this_reg))] := hD
      rw [q_let_of hw] at hF
      exact hQ (w_8.1, w_8.2, r_this_keys, r_this_reg) _ _ _ _ dX8_control_157 hF.symm hP hD hS
    · rw [if_neg c_6] at hF
      rw [if_neg c_6] at hs
      rcases Classical.em (p1 = (7 : Int32)) with c_9 | c_9
      · rw [if_pos c_9] at hF
        rw [if_pos c_9] at hs
        refine lv_tableIn (off := 56) (tgt := 77) hx hb dX8_control_21 (by rw [c_9]; decide) (by rw [c_9]; decide) (by rw [c_9]; decide) (by decide) ?_
        refine lv_iload_n hx hb dX8_control_77 rfl (lv_at hl 5 rfl) ?_
        refine lv_if_le (tgt := 95) hx hb dX8_control_78 (by decide) (fun c_10 => ?_) (fun c_10 => ?_)
        · skip
          rw [if_pos c_10] at hF
          exact hQ (o_this, r_this_bytes, r_this_keys, r_this_reg) _ _ _ _ dX8_control_95 hF.symm hP hD hS
        · skip
          rw [if_neg c_10] at hF
          refine lv_aload_n hx hb dX8_control_81 rfl (lv_at hl 2 rfl) ?_
          refine lv_iload_n hx hb dX8_control_82 rfl (lv_at hl 4 rfl) ?_
          refine q_Vi (rest := []) (c_X8_holds l D a_this a_this_bytes a_this_keys a_this_reg a_this_card a_this_filled a_this_taken a_this_line a_this_one a_this_two o_this p2) cv_X8_holds hx hb hml hown ht hN hK hA hP hD hS hl.1 (km_X8_145) ⟨Nat.le_of_ble_eq_true rfl, Nat.le_of_ble_eq_true rfl⟩ rfl rfl [0] (by decide) rfl [] rfl (fun _ => rfl) (ci := 8) rfl rfl rfl rfl rfl (Nat.le_of_ble_eq_true rfl) dX8_control_83 ⟨Nat.zero_le _, Nat.zero_le _⟩ (fun r u H locs hw hP hD hS => ?_)
          obtain ⟨rfl, rfl⟩ := hw
          have hP : va_P D vwCl [(a_this, oX8 a_this_bytes a_this_keys a_this_reg a_this_card a_this_filled a_this_taken a_this_line a_this_one a_this_two o_this), (a_this_bytes, .inl (k_this_bytes, 2048, .inl r_this_bytes)), (a_this_keys, .inl (k_this_keys, 8, .inl r_this_keys)), (a_this_reg, .inl (k_this_reg, 16, .inl r_this_reg))] H := hP
          have hD : va_D A [(a_this, oX8 a_this_bytes a_this_keys a_this_reg a_this_card a_this_filled a_this_taken a_this_line a_this_one a_this_two o_this), (a_this_bytes, .inl (k_this_bytes, 2048, .inl r_this_bytes)), (a_this_keys, .inl (k_this_keys, 8, .inl r_this_keys)), (a_this_reg, .inl (k_this_reg, 16, .inl r_this_reg))] := hD
          refine lv_if_eq (tgt := 95) hx hb dX8_control_86 (by decide) (fun c_12 => ?_) (fun c_12 => ?_)
          · have c_12 : ¬ (f_X8_holds o_this p2) = true := by rw [(bI_eq0 _).mp c_12]; decide
            rw [if_neg c_12] at hF
            exact hQ (o_this, r_this_bytes, r_this_keys, r_this_reg) _ _ _ _ dX8_control_95 hF.symm hP hD hS
          · have c_12 := (bI_ne0 _).mp c_12
            rw [if_pos c_12] at hF
            refine lv_aload_n hx hb dX8_control_89 rfl (lv_at hl 2 rfl) ?_
            refine lv_iload hx hb dX8_control_90 (lv_at hl 1 rfl) ?_
            refine q_Vv (rest := []) (c_X8_go l D a_this a_this_bytes a_this_keys a_this_reg a_this_card a_this_filled a_this_taken a_this_line a_this_one a_this_two o_this (r_this_reg p3.toNatClampNeg)) cv_X8_go hx hb hml hown ht hN hK hA hP hD hS hl.1 (km_X8_142) ⟨Nat.le_of_ble_eq_true rfl, Nat.le_of_ble_eq_true rfl⟩ rfl rfl [0] (by decide) rfl [] rfl (fun _ => rfl) (ci := 8) rfl rfl rfl rfl rfl (Nat.le_of_ble_eq_true rfl) dX8_control_92 ⟨Nat.zero_le _, Nat.zero_le _⟩ (fun w_13 H locs hw hP hD hS => ?_)
            have hP : va_P D vwCl [(a_this, oX8 a_this_bytes a_this_keys a_this_reg a_this_card a_this_filled a_this_taken a_this_line a_this_one a_this_two w_13), (a_this_bytes, .inl (k_this_bytes, 2048, .inl r_this_bytes)), (a_this_keys, .inl (k_this_keys, 8, .inl r_this_keys)), (a_this_reg, .inl (k_this_reg, 16, .inl r_this_reg))] H := hP
            have hD : va_D A [(a_this, oX8 a_this_bytes a_this_keys a_this_reg a_this_card a_this_filled a_this_taken a_this_line a_this_one a_this_two w_13), (a_this_bytes, .inl (k_this_bytes, 2048, .inl r_this_bytes)), (a_this_keys, .inl (k_this_keys, 8, .inl r_this_keys)), (a_this_reg, .inl (k_this_reg, 16, .inl r_this_reg))] := hD
            rw [q_let_of hw] at hF
            exact hQ (w_13, r_this_bytes, r_this_keys, r_this_reg) _ _ _ _ dX8_control_95 hF.symm hP hD hS
      · rw [if_neg c_9] at hF
        rw [if_neg c_9] at hs
        rcases Classical.em (p1 = (8 : Int32)) with c_14 | c_14
        · rw [if_pos c_14] at hF
          rw [if_pos c_14] at hs
          refine lv_tableIn (off := 75) (tgt := 96) hx hb dX8_control_21 (by rw [c_14]; decide) (by rw [c_14]; decide) (by rw [c_14]; decide) (by decide) ?_
          refine lv_aload_n hx hb dX8_control_96 rfl (lv_at hl 2 rfl) ?_
          refine gf_X8_13 (v := .ref a_this_keys) hx hb hown ht hK hP 0 rfl rfl dX8_control_97 ?_
          refine lv_iload hx hb dX8_control_100 (lv_at hl 0 rfl) ?_
          refine lv_aload_n hx hb dX8_control_102 rfl (lv_at hl 2 rfl) ?_
          refine gf_X8_16 (v := .ref a_this_reg) hx hb hown ht hK hP 0 rfl rfl dX8_control_103 ?_
          refine lv_iload_n hx hb dX8_control_106 rfl (lv_at hl 4 rfl) ?_
          obtain ⟨hi_15, hs⟩ := hs
          refine va_iald hx hb hK hP 3 2 rfl rfl hi_15 dX8_control_107 ?_
          refine lv_iconst (v := 4) hx hb dX8_control_108 (by decide) ?_
          refine lv_ishr hx hb dX8_control_109 ?_
          refine lv_bipush (v := 15) hx hb dX8_control_110 (by decide) ?_
          refine lv_iand hx hb dX8_control_112 ?_
          have hi_16 := hs
          refine va_iast hx hb hK hP hD hS 2 1 rfl rfl hi_16 dX8_control_113 (fun H locs hP hD hS => ?_)
          have hP : va_P D vwCl [(a_this, oX8 a_this_bytes a_this_keys a_this_reg a_this_card a_this_filled a_this_taken a_this_line a_this_one a_this_two o_this), (a_this_bytes, .inl (k_this_bytes, 2048, .inl r_this_bytes)), (a_this_keys, .inl (k_this_keys, 8, .inl (upd r_this_keys (((r_this_reg p3.toNatClampNeg) &&& (2047 : Int32)) / (256 : Int32)).toNatClampNeg (((r_this_reg p2.toNatClampNeg) >>> ((4 : Int32) &&& 31)) &&& (15 : Int32))))), (a_this_reg, .inl (k_this_reg, 16, .inl r_this_reg))] H := hP
          have hD : va_D A [(a_this, oX8 a_this_bytes a_this_keys a_this_reg a_this_card a_this_filled a_this_taken a_this_line a_this_one a_this_two o_this), (a_this_bytes, .inl (k_this_bytes, 2048, .inl r_this_bytes)), (a_this_keys, .inl (k_this_keys, 8, .inl (upd r_this_keys (((r_this_reg p3.toNatClampNeg) &&& (2047 : Int32)) / (256 : Int32)).toNatClampNeg (((r_this_reg p2.toNatClampNeg) >>> ((4 : Int32) &&& 31)) &&& (15 : Int32))))), (a_this_reg, .inl (k_this_reg, 16, .inl r_this_reg))] := hD
          exact hQ (o_this, r_this_bytes, (upd r_this_keys (((r_this_reg p3.toNatClampNeg) &&& (2047 : Int32)) / (256 : Int32)).toNatClampNeg (((r_this_reg p2.toNatClampNeg) >>> ((4 : Int32) &&& 31)) &&& (15 : Int32))), r_this_reg) _ _ _ _ dX8_control_114 hF.symm hP hD hS
        · rw [if_neg c_14] at hF
          rw [if_neg c_14] at hs
          rcases Classical.em (p1 = (9 : Int32)) with c_17 | c_17
          · rw [if_pos c_17] at hF
            rw [if_pos c_17] at hs
            refine lv_tableIn (off := 94) (tgt := 115) hx hb dX8_control_21 (by rw [c_17]; decide) (by rw [c_17]; decide) (by rw [c_17]; decide) (by decide) ?_
            refine lv_aload_n hx hb dX8_control_115 rfl (lv_at hl 2 rfl) ?_
            refine gf_X8_16 (v := .ref a_this_reg) hx hb hown ht hK hP 0 rfl rfl dX8_control_116 ?_
            refine lv_iload_n hx hb dX8_control_119 rfl (lv_at hl 4 rfl) ?_
            refine lv_aload_n hx hb dX8_control_120 rfl (lv_at hl 2 rfl) ?_
            refine gf_X8_16 (v := .ref a_this_reg) hx hb hown ht hK hP 0 rfl rfl dX8_control_121 ?_
            refine lv_iload_n hx hb dX8_control_124 rfl (lv_at hl 4 rfl) ?_
            obtain ⟨hi_18, hs⟩ := hs
            refine va_iald hx hb hK hP 3 2 rfl rfl hi_18 dX8_control_125 ?_
            refine lv_sipush (v := (-256)) hx hb dX8_control_126 (by decide) ?_
            refine lv_iand hx hb dX8_control_129 ?_
            refine lv_bipush (v := 16) hx hb dX8_control_130 (by decide) ?_
            refine lv_aload_n hx hb dX8_control_132 rfl (lv_at hl 2 rfl) ?_
            refine gf_X8_13 (v := .ref a_this_keys) hx hb hown ht hK hP 0 rfl rfl dX8_control_133 ?_
            refine lv_iload hx hb dX8_control_136 (lv_at hl 0 rfl) ?_
            obtain ⟨hi_19, hs⟩ := hs
            refine va_iald hx hb hK hP 2 1 rfl rfl hi_19 dX8_control_138 ?_
            refine lv_imul hx hb dX8_control_139 ?_
            refine lv_iadd hx hb dX8_control_140 ?_
            have hi_20 := hs
            refine va_iast hx hb hK hP hD hS 3 2 rfl rfl hi_20 dX8_control_141 (fun H locs hP hD hS => ?_)
            have hP : va_P D vwCl [(a_this, oX8 a_this_bytes a_this_keys a_this_reg a_this_card a_this_filled a_this_taken a_this_line a_this_one a_this_two o_this), (a_this_bytes, .inl (k_this_bytes, 2048, .inl r_this_bytes)), (a_this_keys, .inl (k_this_keys, 8, .inl r_this_keys)), (a_this_reg, .inl (k_this_reg, 16, .inl (upd r_this_reg p2.toNatClampNeg (((r_this_reg p2.toNatClampNeg) &&& ((-256) : Int32)) + ((16 : Int32) * (r_this_keys (((r_this_reg p3.toNatClampNeg) &&& (2047 : Int32)) / (256 : Int32)).toNatClampNeg))))))] H := hP
            have hD : va_D A [(a_this, oX8 a_this_bytes a_this_keys a_this_reg a_this_card a_this_filled a_this_taken a_this_line a_this_one a_this_two o_this), (a_this_bytes, .inl (k_this_bytes, 2048, .inl r_this_bytes)), (a_this_keys, .inl (k_this_keys, 8, .inl r_this_keys)), (a_this_reg, .inl (k_this_reg, 16, .inl (upd r_this_reg p2.toNatClampNeg (((r_this_reg p2.toNatClampNeg) &&& ((-256) : Int32)) + ((16 : Int32) * (r_this_keys (((r_this_reg p3.toNatClampNeg) &&& (2047 : Int32)) / (256 : Int32)).toNatClampNeg))))))] := hD
            exact hQ (o_this, r_this_bytes, r_this_keys, (upd r_this_reg p2.toNatClampNeg (((r_this_reg p2.toNatClampNeg) &&& ((-256) : Int32)) + ((16 : Int32) * (r_this_keys (((r_this_reg p3.toNatClampNeg) &&& (2047 : Int32)) / (256 : Int32)).toNatClampNeg))))) _ _ _ _ dX8_control_142 hF.symm hP hD hS
          · rw [if_neg c_17] at hF
            rw [if_neg c_17] at hs
            have hsw : (p1).toInt < 5 ∨ 9 < (p1).toInt := by
              have e0 := lv_neT c_2 (a := 5) (by decide)
              have e1 := lv_neT c_6 (a := 6) (by decide)
              have e2 := lv_neT c_9 (a := 7) (by decide)
              have e3 := lv_neT c_14 (a := 8) (by decide)
              have e4 := lv_neT c_17 (a := 9) (by decide)
              omega
            refine lv_tableOut (tgt := 143) hx hb dX8_control_21 hsw (by decide) ?_
            refine lv_aload_n hx hb dX8_control_143 rfl (lv_at hl 2 rfl) ?_
            refine lv_bipush (v := 32) hx hb dX8_control_144 (by decide) ?_
            refine lv_bipush (v := 96) hx hb dX8_control_146 (by decide) ?_
            refine lv_bipush (v := 16) hx hb dX8_control_148 (by decide) ?_
            refine lv_iload_n hx hb dX8_control_150 rfl (lv_at hl 4 rfl) ?_
            refine lv_imul hx hb dX8_control_151 ?_
            refine lv_iload_n hx hb dX8_control_152 rfl (lv_at hl 5 rfl) ?_
            refine lv_iadd hx hb dX8_control_153 ?_
            have hi_21 := hs
            refine q_Vv (rest := []) (c_X8_interrupt l D a_this a_this_bytes a_this_keys a_this_reg a_this_card a_this_filled a_this_taken a_this_line a_this_one a_this_two k_this_bytes o_this r_this_bytes 32 96 (((16 : Int32) * p2) + p3) hi_21) cv_X8_interrupt hx hb hml hown ht hN hK hA hP hD hS hl.1 (km_X8_77) ⟨Nat.le_of_ble_eq_true rfl, Nat.le_of_ble_eq_true rfl⟩ rfl rfl [0, 1] (by decide) rfl [0] rfl (fun _ => rfl) (ci := 8) rfl rfl rfl rfl rfl (Nat.le_of_ble_eq_true rfl) dX8_control_154 ⟨Nat.zero_le _, Nat.zero_le _⟩ (fun w_22 H locs hw hP hD hS => ?_)
            have hP : va_P D vwCl [(a_this, oX8 a_this_bytes a_this_keys a_this_reg a_this_card a_this_filled a_this_taken a_this_line a_this_one a_this_two w_22.1), (a_this_bytes, .inl (k_this_bytes, 2048, .inl w_22.2)), (a_this_keys, .inl (k_this_keys, 8, .inl r_this_keys)), (a_this_reg, .inl (k_this_reg, 16, .inl r_this_reg))] H := hP
            have hD : va_D A [(a_this, oX8 a_this_bytes a_this_keys a_this_reg a_this_card a_this_filled a_this_taken a_this_line a_this_one a_this_two w_22.1), (a_this_bytes, .inl (k_this_bytes, 2048, .inl w_22.2)), (a_this_keys, .inl (k_this_keys, 8, .inl r_this_keys)), (a_this_reg, .inl (k_this_reg, 16, .inl r_this_reg))] := hD
            rw [q_let_of hw] at hF
            exact hQ (w_22.1, w_22.2, r_this_keys, r_this_reg) _ _ _ _ dX8_control_157 hF.symm hP hD hS
theorem cv_X8_control : qV yX8_control cX8_control 6 none 3 := ⟨kc_X8_control, kt_X8_control, ks_X8_control, kn_X8, by decide, by decide +kernel⟩
def f_X8_divide (o_this : Int32 × Int32 × Int32 × Int32 × Bool × Bool × Int32 × Int32 × Int32 × Int32 × Bool × Bool × Bool × Int32 × Int32 × Int32 × Int32 × Int32 × Int32 × Int32 × Int32 × Int32 × Int32 × Int32 × Int32) (r_this_reg : Nat → Int32) (p1 : Int32) (p2 : Int32) : (Int32 × Int32 × Int32 × Int32 × Bool × Bool × Int32 × Int32 × Int32 × Int32 × Bool × Bool × Bool × Int32 × Int32 × Int32 × Int32 × Int32 × Int32 × Int32 × Int32 × Int32 × Int32 × Int32 × Int32) × (Nat → Int32) := (if 0 ≤ (lg_cmp ((r_this_reg (p1 + (1 : Int32)).toNatClampNeg).toInt64) 0) then (if p2 = 0 then (if 0 < (lg_cmp 4294967296 2147483647) then (q_let (f_X8_wrong o_this true 9) fun w_24 => (if w_24.2.2.2.2.2.2.2.2.1 = 0 then (w_24, (upd (upd r_this_reg p1.toNatClampNeg ((((((r_this_reg p1.toNatClampNeg).toInt64) <<< ((32 : Int32).toInt64 &&& 63)) + ((r_this_reg (p1 + (1 : Int32)).toNatClampNeg).toInt64)) - ((((r_this_reg p1.toNatClampNeg).toInt64) <<< ((32 : Int32).toInt64 &&& 63)) + ((r_this_reg (p1 + (1 : Int32)).toNatClampNeg).toInt64)) / p2.toInt64 * p2.toInt64).toInt32)) (p1 + (1 : Int32)).toNatClampNeg ((4294967296 : Int64).toInt32))) else (w_24, r_this_reg))) else (if 0 ≤ (lg_cmp 4294967296 (-2147483648)) then (q_let (f_X8_wrong o_this false 9) fun w_30 => (if w_30.2.2.2.2.2.2.2.2.1 = 0 then (w_30, (upd (upd r_this_reg p1.toNatClampNeg ((((((r_this_reg p1.toNatClampNeg).toInt64) <<< ((32 : Int32).toInt64 &&& 63)) + ((r_this_reg (p1 + (1 : Int32)).toNatClampNeg).toInt64)) - ((((r_this_reg p1.toNatClampNeg).toInt64) <<< ((32 : Int32).toInt64 &&& 63)) + ((r_this_reg (p1 + (1 : Int32)).toNatClampNeg).toInt64)) / p2.toInt64 * p2.toInt64).toInt32)) (p1 + (1 : Int32)).toNatClampNeg ((4294967296 : Int64).toInt32))) else (w_30, r_this_reg))) else (q_let (f_X8_wrong o_this true 9) fun w_35 => (if w_35.2.2.2.2.2.2.2.2.1 = 0 then (w_35, (upd (upd r_this_reg p1.toNatClampNeg ((((((r_this_reg p1.toNatClampNeg).toInt64) <<< ((32 : Int32).toInt64 &&& 63)) + ((r_this_reg (p1 + (1 : Int32)).toNatClampNeg).toInt64)) - ((((r_this_reg p1.toNatClampNeg).toInt64) <<< ((32 : Int32).toInt64 &&& 63)) + ((r_this_reg (p1 + (1 : Int32)).toNatClampNeg).toInt64)) / p2.toInt64 * p2.toInt64).toInt32)) (p1 + (1 : Int32)).toNatClampNeg ((4294967296 : Int64).toInt32))) else (w_35, r_this_reg))))) else (if 0 < (lg_cmp (((((r_this_reg p1.toNatClampNeg).toInt64) <<< ((32 : Int32).toInt64 &&& 63)) + ((r_this_reg (p1 + (1 : Int32)).toNatClampNeg).toInt64)) / p2.toInt64) 2147483647) then (q_let (f_X8_wrong o_this true 9) fun w_7 => (if w_7.2.2.2.2.2.2.2.2.1 = 0 then (w_7, (upd (upd r_this_reg p1.toNatClampNeg ((((((r_this_reg p1.toNatClampNeg).toInt64) <<< ((32 : Int32).toInt64 &&& 63)) + ((r_this_reg (p1 + (1 : Int32)).toNatClampNeg).toInt64)) - ((((r_this_reg p1.toNatClampNeg).toInt64) <<< ((32 : Int32).toInt64 &&& 63)) + ((r_this_reg (p1 + (1 : Int32)).toNatClampNeg).toInt64)) / p2.toInt64 * p2.toInt64).toInt32)) (p1 + (1 : Int32)).toNatClampNeg ((((((r_this_reg p1.toNatClampNeg).toInt64) <<< ((32 : Int32).toInt64 &&& 63)) + ((r_this_reg (p1 + (1 : Int32)).toNatClampNeg).toInt64)) / p2.toInt64).toInt32))) else (w_7, r_this_reg))) else (if 0 ≤ (lg_cmp (((((r_this_reg p1.toNatClampNeg).toInt64) <<< ((32 : Int32).toInt64 &&& 63)) + ((r_this_reg (p1 + (1 : Int32)).toNatClampNeg).toInt64)) / p2.toInt64) (-2147483648)) then (q_let (f_X8_wrong o_this false 9) fun w_13 => (if w_13.2.2.2.2.2.2.2.2.1 = 0 then (w_13, (upd (upd r_this_reg p1.toNatClampNeg ((((((r_this_reg p1.toNatClampNeg).toInt64) <<< ((32 : Int32).toInt64 &&& 63)) + ((r_this_reg (p1 + (1 : Int32)).toNatClampNeg).toInt64)) - ((((r_this_reg p1.toNatClampNeg).toInt64) <<< ((32 : Int32).toInt64 &&& 63)) + ((r_this_reg (p1 + (1 : Int32)).toNatClampNeg).toInt64)) / p2.toInt64 * p2.toInt64).toInt32)) (p1 + (1 : Int32)).toNatClampNeg ((((((r_this_reg p1.toNatClampNeg).toInt64) <<< ((32 : Int32).toInt64 &&& 63)) + ((r_this_reg (p1 + (1 : Int32)).toNatClampNeg).toInt64)) / p2.toInt64).toInt32))) else (w_13, r_this_reg))) else (q_let (f_X8_wrong o_this true 9) fun w_18 => (if w_18.2.2.2.2.2.2.2.2.1 = 0 then (w_18, (upd (upd r_this_reg p1.toNatClampNeg ((((((r_this_reg p1.toNatClampNeg).toInt64) <<< ((32 : Int32).toInt64 &&& 63)) + ((r_this_reg (p1 + (1 : Int32)).toNatClampNeg).toInt64)) - ((((r_this_reg p1.toNatClampNeg).toInt64) <<< ((32 : Int32).toInt64 &&& 63)) + ((r_this_reg (p1 + (1 : Int32)).toNatClampNeg).toInt64)) / p2.toInt64 * p2.toInt64).toInt32)) (p1 + (1 : Int32)).toNatClampNeg ((((((r_this_reg p1.toNatClampNeg).toInt64) <<< ((32 : Int32).toInt64 &&& 63)) + ((r_this_reg (p1 + (1 : Int32)).toNatClampNeg).toInt64)) / p2.toInt64).toInt32))) else (w_18, r_this_reg)))))) else (if p2 = 0 then (if 0 < (lg_cmp 4294967296 2147483647) then (q_let (f_X8_wrong o_this true 9) fun w_60 => (if w_60.2.2.2.2.2.2.2.2.1 = 0 then (w_60, (upd (upd r_this_reg p1.toNatClampNeg ((((((r_this_reg p1.toNatClampNeg).toInt64) <<< ((32 : Int32).toInt64 &&& 63)) + (((r_this_reg (p1 + (1 : Int32)).toNatClampNeg).toInt64) + (4294967296 : Int64))) - ((((r_this_reg p1.toNatClampNeg).toInt64) <<< ((32 : Int32).toInt64 &&& 63)) + (((r_this_reg (p1 + (1 : Int32)).toNatClampNeg).toInt64) + (4294967296 : Int64))) / p2.toInt64 * p2.toInt64).toInt32)) (p1 + (1 : Int32)).toNatClampNeg ((4294967296 : Int64).toInt32))) else (w_60, r_this_reg))) else (if 0 ≤ (lg_cmp 4294967296 (-2147483648)) then (q_let (f_X8_wrong o_this false 9) fun w_66 => (if w_66.2.2.2.2.2.2.2.2.1 = 0 then (w_66, (upd (upd r_this_reg p1.toNatClampNeg ((((((r_this_reg p1.toNatClampNeg).toInt64) <<< ((32 : Int32).toInt64 &&& 63)) + (((r_this_reg (p1 + (1 : Int32)).toNatClampNeg).toInt64) + (4294967296 : Int64))) - ((((r_this_reg p1.toNatClampNeg).toInt64) <<< ((32 : Int32).toInt64 &&& 63)) + (((r_this_reg (p1 + (1 : Int32)).toNatClampNeg).toInt64) + (4294967296 : Int64))) / p2.toInt64 * p2.toInt64).toInt32)) (p1 + (1 : Int32)).toNatClampNeg ((4294967296 : Int64).toInt32))) else (w_66, r_this_reg))) else (q_let (f_X8_wrong o_this true 9) fun w_71 => (if w_71.2.2.2.2.2.2.2.2.1 = 0 then (w_71, (upd (upd r_this_reg p1.toNatClampNeg ((((((r_this_reg p1.toNatClampNeg).toInt64) <<< ((32 : Int32).toInt64 &&& 63)) + (((r_this_reg (p1 + (1 : Int32)).toNatClampNeg).toInt64) + (4294967296 : Int64))) - ((((r_this_reg p1.toNatClampNeg).toInt64) <<< ((32 : Int32).toInt64 &&& 63)) + (((r_this_reg (p1 + (1 : Int32)).toNatClampNeg).toInt64) + (4294967296 : Int64))) / p2.toInt64 * p2.toInt64).toInt32)) (p1 + (1 : Int32)).toNatClampNeg ((4294967296 : Int64).toInt32))) else (w_71, r_this_reg))))) else (if 0 < (lg_cmp (((((r_this_reg p1.toNatClampNeg).toInt64) <<< ((32 : Int32).toInt64 &&& 63)) + (((r_this_reg (p1 + (1 : Int32)).toNatClampNeg).toInt64) + (4294967296 : Int64))) / p2.toInt64) 2147483647) then (q_let (f_X8_wrong o_this true 9) fun w_43 => (if w_43.2.2.2.2.2.2.2.2.1 = 0 then (w_43, (upd (upd r_this_reg p1.toNatClampNeg ((((((r_this_reg p1.toNatClampNeg).toInt64) <<< ((32 : Int32).toInt64 &&& 63)) + (((r_this_reg (p1 + (1 : Int32)).toNatClampNeg).toInt64) + (4294967296 : Int64))) - ((((r_this_reg p1.toNatClampNeg).toInt64) <<< ((32 : Int32).toInt64 &&& 63)) + (((r_this_reg (p1 + (1 : Int32)).toNatClampNeg).toInt64) + (4294967296 : Int64))) / p2.toInt64 * p2.toInt64).toInt32)) (p1 + (1 : Int32)).toNatClampNeg ((((((r_this_reg p1.toNatClampNeg).toInt64) <<< ((32 : Int32).toInt64 &&& 63)) + (((r_this_reg (p1 + (1 : Int32)).toNatClampNeg).toInt64) + (4294967296 : Int64))) / p2.toInt64).toInt32))) else (w_43, r_this_reg))) else (if 0 ≤ (lg_cmp (((((r_this_reg p1.toNatClampNeg).toInt64) <<< ((32 : Int32).toInt64 &&& 63)) + (((r_this_reg (p1 + (1 : Int32)).toNatClampNeg).toInt64) + (4294967296 : Int64))) / p2.toInt64) (-2147483648)) then (q_let (f_X8_wrong o_this false 9) fun w_49 => (if w_49.2.2.2.2.2.2.2.2.1 = 0 then (w_49, (upd (upd r_this_reg p1.toNatClampNeg ((((((r_this_reg p1.toNatClampNeg).toInt64) <<< ((32 : Int32).toInt64 &&& 63)) + (((r_this_reg (p1 + (1 : Int32)).toNatClampNeg).toInt64) + (4294967296 : Int64))) - ((((r_this_reg p1.toNatClampNeg).toInt64) <<< ((32 : Int32).toInt64 &&& 63)) + (((r_this_reg (p1 + (1 : Int32)).toNatClampNeg).toInt64) + (4294967296 : Int64))) / p2.toInt64 * p2.toInt64).toInt32)) (p1 + (1 : Int32)).toNatClampNeg ((((((r_this_reg p1.toNatClampNeg).toInt64) <<< ((32 : Int32).toInt64 &&& 63)) + (((r_this_reg (p1 + (1 : Int32)).toNatClampNeg).toInt64) + (4294967296 : Int64))) / p2.toInt64).toInt32))) else (w_49, r_this_reg))) else (q_let (f_X8_wrong o_this true 9) fun w_54 => (if w_54.2.2.2.2.2.2.2.2.1 = 0 then (w_54, (upd (upd r_this_reg p1.toNatClampNeg ((((((r_this_reg p1.toNatClampNeg).toInt64) <<< ((32 : Int32).toInt64 &&& 63)) + (((r_this_reg (p1 + (1 : Int32)).toNatClampNeg).toInt64) + (4294967296 : Int64))) - ((((r_this_reg p1.toNatClampNeg).toInt64) <<< ((32 : Int32).toInt64 &&& 63)) + (((r_this_reg (p1 + (1 : Int32)).toNatClampNeg).toInt64) + (4294967296 : Int64))) / p2.toInt64 * p2.toInt64).toInt32)) (p1 + (1 : Int32)).toNatClampNeg ((((((r_this_reg p1.toNatClampNeg).toInt64) <<< ((32 : Int32).toInt64 &&& 63)) + (((r_this_reg (p1 + (1 : Int32)).toNatClampNeg).toInt64) + (4294967296 : Int64))) / p2.toInt64).toInt32))) else (w_54, r_this_reg)))))))
def s_X8_divide (o_this : Int32 × Int32 × Int32 × Int32 × Bool × Bool × Int32 × Int32 × Int32 × Int32 × Bool × Bool × Bool × Int32 × Int32 × Int32 × Int32 × Int32 × Int32 × Int32 × Int32 × Int32 × Int32 × Int32 × Int32) (r_this_reg : Nat → Int32) (p1 : Int32) (p2 : Int32) : Prop := (vp_in (p1 + (1 : Int32)) 16 ∧ (vp_in p1 16 ∧ (if 0 ≤ (lg_cmp ((r_this_reg (p1 + (1 : Int32)).toNatClampNeg).toInt64) 0) then (if p2 = 0 then (if 0 < (lg_cmp 4294967296 2147483647) then (q_let (f_X8_wrong o_this true 9) fun w_24 => (if w_24.2.2.2.2.2.2.2.2.1 = 0 then (¬ p2.toInt64 = 0 ∧ (vp_in p1 16 ∧ vp_in (p1 + (1 : Int32)) 16)) else True)) else (if 0 ≤ (lg_cmp 4294967296 (-2147483648)) then (q_let (f_X8_wrong o_this false 9) fun w_30 => (if w_30.2.2.2.2.2.2.2.2.1 = 0 then (¬ p2.toInt64 = 0 ∧ (vp_in p1 16 ∧ vp_in (p1 + (1 : Int32)) 16)) else True)) else (q_let (f_X8_wrong o_this true 9) fun w_35 => (if w_35.2.2.2.2.2.2.2.2.1 = 0 then (¬ p2.toInt64 = 0 ∧ (vp_in p1 16 ∧ vp_in (p1 + (1 : Int32)) 16)) else True)))) else (¬ p2.toInt64 = 0 ∧ (if 0 < (lg_cmp (((((r_this_reg p1.toNatClampNeg).toInt64) <<< ((32 : Int32).toInt64 &&& 63)) + ((r_this_reg (p1 + (1 : Int32)).toNatClampNeg).toInt64)) / p2.toInt64) 2147483647) then (q_let (f_X8_wrong o_this true 9) fun w_7 => (if w_7.2.2.2.2.2.2.2.2.1 = 0 then (¬ p2.toInt64 = 0 ∧ (vp_in p1 16 ∧ vp_in (p1 + (1 : Int32)) 16)) else True)) else (if 0 ≤ (lg_cmp (((((r_this_reg p1.toNatClampNeg).toInt64) <<< ((32 : Int32).toInt64 &&& 63)) + ((r_this_reg (p1 + (1 : Int32)).toNatClampNeg).toInt64)) / p2.toInt64) (-2147483648)) then (q_let (f_X8_wrong o_this false 9) fun w_13 => (if w_13.2.2.2.2.2.2.2.2.1 = 0 then (¬ p2.toInt64 = 0 ∧ (vp_in p1 16 ∧ vp_in (p1 + (1 : Int32)) 16)) else True)) else (q_let (f_X8_wrong o_this true 9) fun w_18 => (if w_18.2.2.2.2.2.2.2.2.1 = 0 then (¬ p2.toInt64 = 0 ∧ (vp_in p1 16 ∧ vp_in (p1 + (1 : Int32)) 16)) else True)))))) else (if p2 = 0 then (if 0 < (lg_cmp 4294967296 2147483647) then (q_let (f_X8_wrong o_this true 9) fun w_60 => (if w_60.2.2.2.2.2.2.2.2.1 = 0 then (¬ p2.toInt64 = 0 ∧ (vp_in p1 16 ∧ vp_in (p1 + (1 : Int32)) 16)) else True)) else (if 0 ≤ (lg_cmp 4294967296 (-2147483648)) then (q_let (f_X8_wrong o_this false 9) fun w_66 => (if w_66.2.2.2.2.2.2.2.2.1 = 0 then (¬ p2.toInt64 = 0 ∧ (vp_in p1 16 ∧ vp_in (p1 + (1 : Int32)) 16)) else True)) else (q_let (f_X8_wrong o_this true 9) fun w_71 => (if w_71.2.2.2.2.2.2.2.2.1 = 0 then (¬ p2.toInt64 = 0 ∧ (vp_in p1 16 ∧ vp_in (p1 + (1 : Int32)) 16)) else True)))) else (¬ p2.toInt64 = 0 ∧ (if 0 < (lg_cmp (((((r_this_reg p1.toNatClampNeg).toInt64) <<< ((32 : Int32).toInt64 &&& 63)) + (((r_this_reg (p1 + (1 : Int32)).toNatClampNeg).toInt64) + (4294967296 : Int64))) / p2.toInt64) 2147483647) then (q_let (f_X8_wrong o_this true 9) fun w_43 => (if w_43.2.2.2.2.2.2.2.2.1 = 0 then (¬ p2.toInt64 = 0 ∧ (vp_in p1 16 ∧ vp_in (p1 + (1 : Int32)) 16)) else True)) else (if 0 ≤ (lg_cmp (((((r_this_reg p1.toNatClampNeg).toInt64) <<< ((32 : Int32).toInt64 &&& 63)) + (((r_this_reg (p1 + (1 : Int32)).toNatClampNeg).toInt64) + (4294967296 : Int64))) / p2.toInt64) (-2147483648)) then (q_let (f_X8_wrong o_this false 9) fun w_49 => (if w_49.2.2.2.2.2.2.2.2.1 = 0 then (¬ p2.toInt64 = 0 ∧ (vp_in p1 16 ∧ vp_in (p1 + (1 : Int32)) 16)) else True)) else (q_let (f_X8_wrong o_this true 9) fun w_54 => (if w_54.2.2.2.2.2.2.2.2.1 = 0 then (¬ p2.toInt64 = 0 ∧ (vp_in p1 16 ∧ vp_in (p1 + (1 : Int32)) 16)) else True)))))))))
set_option linter.all false in
set_option maxHeartbeats 4000000 in
set_option maxRecDepth 100000 in
theorem c_X8_divide (l : Launch) (D : va_G) (a_this a_this_reg a_this_bytes a_this_keys a_this_card a_this_filled a_this_taken a_this_line a_this_one a_this_two : Nat) (k_this_reg : ClassId) (o_this : Int32 × Int32 × Int32 × Int32 × Bool × Bool × Int32 × Int32 × Int32 × Int32 × Bool × Bool × Bool × Int32 × Int32 × Int32 × Int32 × Int32 × Int32 × Int32 × Int32 × Int32 × Int32 × Int32 × Int32) (r_this_reg : Nat → Int32) (p1 : Int32) (p2 : Int32) (hs : s_X8_divide o_this r_this_reg p1 p2) : CtV l yX8_divide cX8_divide 9 none { frames := 1, cells := 0, slots := 0, locals := 22 } D [.ref a_this, .int p1, .int p2] [(a_this, oX8 a_this_bytes a_this_keys a_this_reg a_this_card a_this_filled a_this_taken a_this_line a_this_one a_this_two o_this), (a_this_reg, .inl (k_this_reg, 16, .inl r_this_reg))] [(k_this_reg, .int)] (fun (u : (Int32 × Int32 × Int32 × Int32 × Bool × Bool × Int32 × Int32 × Int32 × Int32 × Bool × Bool × Bool × Int32 × Int32 × Int32 × Int32 × Int32 × Int32 × Int32 × Int32 × Int32 × Int32 × Int32 × Int32) × (Nat → Int32)) => f_X8_divide o_this r_this_reg p1 p2 = u) (fun u => [(a_this, oX8 a_this_bytes a_this_keys a_this_reg a_this_card a_this_filled a_this_taken a_this_line a_this_one a_this_two u.1), (a_this_reg, .inl (k_this_reg, 16, .inl u.2))]) := by
  refine CtV.of (by decide) (Nat.le_of_ble_eq_true rfl) ?_
  intro p e s m below meth c A ls Q hE hP hD hS hl hQ
  obtain ⟨hx, hb, hml, hown, ht, hN, hK, hA⟩ := hE
  have hown : s.vm.findClass RX8 = some m.cls := hown
  have hl : lv_has ls 9 [(0, .ref a_this), (1, .int p1), (2, .int p2)] := hl
  obtain ⟨F, hF⟩ : ∃ F, f_X8_divide o_this r_this_reg p1 p2 = F := ⟨_, rfl⟩
  rw [hF] at hQ
  unfold f_X8_divide at hF
  unfold s_X8_divide at hs
  refine lv_aload_n hx hb dX8_divide_0 rfl (lv_at hl 0 rfl) ?_
  refine gf_X8_16 (v := .ref a_this_reg) hx hb hown ht hK hP 0 rfl rfl dX8_divide_1 ?_
  refine lv_iload_n hx hb dX8_divide_4 rfl (lv_at hl 1 rfl) ?_
  refine lv_iconst (v := 1) hx hb dX8_divide_5 (by decide) ?_
  refine lv_iadd hx hb dX8_divide_6 ?_
  obtain ⟨hi_1, hs⟩ := hs
  refine va_iald hx hb hK hP 1 0 rfl rfl hi_1 dX8_divide_7 ?_
  refine lv_i2l hx hb dX8_divide_8 rfl ?_
  refine lv_lstore_n (lv' := [(3, .long ((r_this_reg (p1 + (1 : Int32)).toNatClampNeg).toInt64)), (0, .ref a_this), (1, .int p1), (2, .int p2)]) hx hb dX8_divide_9 rfl hl (by decide) rfl (fun ls hl => ?_)
  refine lv_aload_n hx hb dX8_divide_10 rfl (lv_at hl 1 rfl) ?_
  refine gf_X8_16 (v := .ref a_this_reg) hx hb hown ht hK hP 0 rfl rfl dX8_divide_11 ?_
  refine lv_iload_n hx hb dX8_divide_14 rfl (lv_at hl 2 rfl) ?_
  obtain ⟨hi_2, hs⟩ := hs
  refine va_iald hx hb hK hP 1 0 rfl rfl hi_2 dX8_divide_15 ?_
  refine lv_i2l hx hb dX8_divide_16 rfl ?_
  refine lv_bipush (v := 32) hx hb dX8_divide_17 (by decide) ?_
  refine lv_lshl hx hb dX8_divide_19 rfl ?_
  refine lv_lload_n hx hb dX8_divide_20 rfl (lv_at hl 0 rfl) ?_
  refine lv_lconst (v := 0) hx hb dX8_divide_21 (by decide) ?_
  refine W.lcmp hx hb dX8_divide_22 ?_
  refine lv_if_ge (tgt := 34) hx hb dX8_divide_23 (by decide) (fun c_3 => ?_) (fun c_3 => ?_)
  · skip
    rw [if_pos c_3] at hF
    rw [if_pos c_3] at hs
    refine lv_lload_n hx hb dX8_divide_34 rfl (lv_at hl 0 rfl) ?_
    refine lv_ladd hx hb dX8_divide_35 ?_
    refine lv_lstore (lv' := [(5, .long ((((r_this_reg p1.toNatClampNeg).toInt64) <<< ((32 : Int32).toInt64 &&& 63)) + ((r_this_reg (p1 + (1 : Int32)).toNatClampNeg).toInt64))), (3, .long ((r_this_reg (p1 + (1 : Int32)).toNatClampNeg).toInt64)), (0, .ref a_this), (1, .int p1), (2, .int p2)]) hx hb dX8_divide_36 hl (by decide) rfl (fun ls hl => ?_)
    refine lv_iload_n hx hb dX8_divide_38 rfl (lv_at hl 4 rfl) ?_
    refine lv_if_ne (tgt := 48) hx hb dX8_divide_39 (by decide) (fun c_4 => ?_) (fun c_4 => ?_)
    · skip
      rw [if_neg c_4] at hF
      rw [if_neg c_4] at hs
      refine lv_lload hx hb dX8_divide_48 (lv_at hl 0 rfl) ?_
      refine lv_iload_n hx hb dX8_divide_50 rfl (lv_at hl 4 rfl) ?_
      refine lv_i2l hx hb dX8_divide_51 rfl ?_
      obtain ⟨hi_5, hs⟩ := hs
      refine lv_ldiv hx hb dX8_divide_52 hi_5 ?_
      refine lv_lstore (lv' := [(7, .long (((((r_this_reg p1.toNatClampNeg).toInt64) <<< ((32 : Int32).toInt64 &&& 63)) + ((r_this_reg (p1 + (1 : Int32)).toNatClampNeg).toInt64)) / p2.toInt64)), (5, .long ((((r_this_reg p1.toNatClampNeg).toInt64) <<< ((32 : Int32).toInt64 &&& 63)) + ((r_this_reg (p1 + (1 : Int32)).toNatClampNeg).toInt64))), (3, .long ((r_this_reg (p1 + (1 : Int32)).toNatClampNeg).toInt64)), (0, .ref a_this), (1, .int p1), (2, .int p2)]) hx hb dX8_divide_53 hl (by decide) rfl (fun ls hl => ?_)
      refine lv_aload_n hx hb dX8_divide_55 rfl (lv_at hl 3 rfl) ?_
      refine lv_lload hx hb dX8_divide_56 (lv_at hl 0 rfl) ?_
      refine lv_ldc2 (v := 2147483647) hx hb hown (ht _ kj_X8_151) dX8_divide_58 ?_
      refine W.lcmp hx hb dX8_divide_61 ?_
      refine lv_if_gt (tgt := 74) hx hb dX8_divide_62 (by decide) (fun c_6 => ?_) (fun c_6 => ?_)
      · skip
        rw [if_pos c_6] at hF
        rw [if_pos c_6] at hs
        refine lv_iconst (v := 1) hx hb dX8_divide_74 (by decide) ?_
        refine lv_goto (tgt := 79) hx hb dX8_divide_75 (by decide) ?_
        refine lv_bipush (v := 9) hx hb dX8_divide_79 (by decide) ?_
        refine q_Vv (rest := []) (c_X8_wrong l D a_this a_this_bytes a_this_keys a_this_reg a_this_card a_this_filled a_this_taken a_this_line a_this_one a_this_two o_this true 9) cv_X8_wrong hx hb hml hown ht hN hK hA hP hD hS hl.1 (km_X8_42) ⟨Nat.le_of_ble_eq_true rfl, Nat.le_of_ble_eq_true rfl⟩ rfl rfl [0] (by decide) rfl [] rfl (fun _ => rfl) (ci := 8) rfl rfl rfl rfl rfl (Nat.le_of_ble_eq_true rfl) dX8_divide_81 ⟨Nat.zero_le _, Nat.zero_le _⟩ (fun w_7 H locs hw hP hD hS => ?_)
        have hP : va_P D vwCl [(a_this, oX8 a_this_bytes a_this_keys a_this_reg a_this_card a_this_filled a_this_taken a_this_line a_this_one a_this_two w_7), (a_this_reg, .inl (k_this_reg, 16, .inl r_this_reg))] H := hP
        have hD : va_D A [(a_this, oX8 a_this_bytes a_this_keys a_this_reg a_this_card a_this_filled a_this_taken a_this_line a_this_one a_this_two w_7), (a_this_reg, .inl (k_this_reg, 16, .inl r_this_reg))] := hD
        rw [q_let_of hw] at hF
        rw [q_let_of hw] at hs
        refine lv_aload_n hx hb dX8_divide_84 rfl (lv_at hl 3 rfl) ?_
        refine gf_X8_38 (v := .int w_7.2.2.2.2.2.2.2.2.1) hx hb hown ht hK hP 0 rfl rfl dX8_divide_85 ?_
        refine lv_if_ne (tgt := 114) hx hb dX8_divide_88 (by decide) (fun c_8 => ?_) (fun c_8 => ?_)
        · skip
          rw [if_neg c_8] at hF
          rw [if_neg c_8] at hs
          exact hQ (w_7, r_this_reg) _ _ _ _ dX8_divide_114 hF.symm hP hD hS
        · skip
          rw [if_pos c_8] at hF
          rw [if_pos c_8] at hs
          refine lv_aload_n hx hb dX8_divide_91 rfl (lv_at hl 3 rfl) ?_
          refine gf_X8_16 (v := .ref a_this_reg) hx hb hown ht hK hP 0 rfl rfl dX8_divide_92 ?_
          refine lv_iload_n hx hb dX8_divide_95 rfl (lv_at hl 4 rfl) ?_
          refine lv_lload hx hb dX8_divide_96 (lv_at hl 1 rfl) ?_
          refine lv_iload_n hx hb dX8_divide_98 rfl (lv_at hl 5 rfl) ?_
          refine lv_i2l hx hb dX8_divide_99 rfl ?_
          obtain ⟨hi_9, hs⟩ := hs
          refine lv_lrem hx hb dX8_divide_100 hi_9 ?_
          refine lv_l2i hx hb dX8_divide_101 rfl ?_
          obtain ⟨hi_10, hs⟩ := hs
          refine va_iast hx hb hK hP hD hS 1 0 rfl rfl hi_10 dX8_divide_102 (fun H locs hP hD hS => ?_)
          have hP : va_P D vwCl [(a_this, oX8 a_this_bytes a_this_keys a_this_reg a_this_card a_this_filled a_this_taken a_this_line a_this_one a_this_two w_7), (a_this_reg, .inl (k_this_reg, 16, .inl (upd r_this_reg p1.toNatClampNeg ((((((r_this_reg p1.toNatClampNeg).toInt64) <<< ((32 : Int32).toInt64 &&& 63)) + ((r_this_reg (p1 + (1 : Int32)).toNatClampNeg).toInt64)) - ((((r_this_reg p1.toNatClampNeg).toInt64) <<< ((32 : Int32).toInt64 &&& 63)) + ((r_this_reg (p1 + (1 : Int32)).toNatClampNeg).toInt64)) / p2.toInt64 * p2.toInt64).toInt32))))] H := hP
          have hD : va_D A [(a_this, oX8 a_this_bytes a_this_keys a_this_reg a_this_card a_this_filled a_this_taken a_this_line a_this_one a_this_two w_7), (a_this_reg, .inl (k_this_reg, 16, .inl (upd r_this_reg p1.toNatClampNeg ((((((r_this_reg p1.toNatClampNeg).toInt64) <<< ((32 : Int32).toInt64 &&& 63)) + ((r_this_reg (p1 + (1 : Int32)).toNatClampNeg).toInt64)) - ((((r_this_reg p1.toNatClampNeg).toInt64) <<< ((32 : Int32).toInt64 &&& 63)) + ((r_this_reg (p1 + (1 : Int32)).toNatClampNeg).toInt64)) / p2.toInt64 * p2.toInt64).toInt32))))] := hD
          refine lv_aload_n hx hb dX8_divide_103 rfl (lv_at hl 3 rfl) ?_
          refine gf_X8_16 (v := .ref a_this_reg) hx hb hown ht hK hP 0 rfl rfl dX8_divide_104 ?_
          refine lv_iload_n hx hb dX8_divide_107 rfl (lv_at hl 4 rfl) ?_
          refine lv_iconst (v := 1) hx hb dX8_divide_108 (by decide) ?_
          refine lv_iadd hx hb dX8_divide_109 ?_
          refine lv_lload hx hb dX8_divide_110 (lv_at hl 0 rfl) ?_
          refine lv_l2i hx hb dX8_divide_112 rfl ?_
          have hi_11 := hs
          refine va_iast hx hb hK hP hD hS 1 0 rfl rfl hi_11 dX8_divide_113 (fun H locs hP hD hS => ?_)
          have hP : va_P D vwCl [(a_this, oX8 a_this_bytes a_this_keys a_this_reg a_this_card a_this_filled a_this_taken a_this_line a_this_one a_this_two w_7), (a_this_reg, .inl (k_this_reg, 16, .inl (upd (upd r_this_reg p1.toNatClampNeg ((((((r_this_reg p1.toNatClampNeg).toInt64) <<< ((32 : Int32).toInt64 &&& 63)) + ((r_this_reg (p1 + (1 : Int32)).toNatClampNeg).toInt64)) - ((((r_this_reg p1.toNatClampNeg).toInt64) <<< ((32 : Int32).toInt64 &&& 63)) + ((r_this_reg (p1 + (1 : Int32)).toNatClampNeg).toInt64)) / p2.toInt64 * p2.toInt64).toInt32)) (p1 + (1 : Int32)).toNatClampNeg ((((((r_this_reg p1.toNatClampNeg).toInt64) <<< ((32 : Int32).toInt64 &&& 63)) + ((r_this_reg (p1 + (1 : Int32)).toNatClampNeg).toInt64)) / p2.toInt64).toInt32))))] H := hP
          have hD : va_D A [(a_this, oX8 a_this_bytes a_this_keys a_this_reg a_this_card a_this_filled a_this_taken a_this_line a_this_one a_this_two w_7), (a_this_reg, .inl (k_this_reg, 16, .inl (upd (upd r_this_reg p1.toNatClampNeg ((((((r_this_reg p1.toNatClampNeg).toInt64) <<< ((32 : Int32).toInt64 &&& 63)) + ((r_this_reg (p1 + (1 : Int32)).toNatClampNeg).toInt64)) - ((((r_this_reg p1.toNatClampNeg).toInt64) <<< ((32 : Int32).toInt64 &&& 63)) + ((r_this_reg (p1 + (1 : Int32)).toNatClampNeg).toInt64)) / p2.toInt64 * p2.toInt64).toInt32)) (p1 + (1 : Int32)).toNatClampNeg ((((((r_this_reg p1.toNatClampNeg).toInt64) <<< ((32 : Int32).toInt64 &&& 63)) + ((r_this_reg (p1 + (1 : Int32)).toNatClampNeg).toInt64)) / p2.toInt64).toInt32))))] := hD
          exact hQ (w_7, (upd (upd r_this_reg p1.toNatClampNeg ((((((r_this_reg p1.toNatClampNeg).toInt64) <<< ((32 : Int32).toInt64 &&& 63)) + ((r_this_reg (p1 + (1 : Int32)).toNatClampNeg).toInt64)) - ((((r_this_reg p1.toNatClampNeg).toInt64) <<< ((32 : Int32).toInt64 &&& 63)) + ((r_this_reg (p1 + (1 : Int32)).toNatClampNeg).toInt64)) / p2.toInt64 * p2.toInt64).toInt32)) (p1 + (1 : Int32)).toNatClampNeg ((((((r_this_reg p1.toNatClampNeg).toInt64) <<< ((32 : Int32).toInt64 &&& 63)) + ((r_this_reg (p1 + (1 : Int32)).toNatClampNeg).toInt64)) / p2.toInt64).toInt32))) _ _ _ _ dX8_divide_114 hF.symm hP hD hS
      · skip
        rw [if_neg c_6] at hF
        rw [if_neg c_6] at hs
        refine lv_lload hx hb dX8_divide_65 (lv_at hl 0 rfl) ?_
        refine lv_ldc2 (v := (-2147483648)) hx hb hown (ht _ kj_X8_153) dX8_divide_67 ?_
        refine W.lcmp hx hb dX8_divide_70 ?_
        refine lv_if_ge (tgt := 78) hx hb dX8_divide_71 (by decide) (fun c_12 => ?_) (fun c_12 => ?_)
        · skip
          rw [if_pos c_12] at hF
          rw [if_pos c_12] at hs
          refine lv_iconst (v := 0) hx hb dX8_divide_78 (by decide) ?_
          refine lv_bipush (v := 9) hx hb dX8_divide_79 (by decide) ?_
          refine q_Vv (rest := []) (c_X8_wrong l D a_this a_this_bytes a_this_keys a_this_reg a_this_card a_this_filled a_this_taken a_this_line a_this_one a_this_two o_this false 9) cv_X8_wrong hx hb hml hown ht hN hK hA hP hD hS hl.1 (km_X8_42) ⟨Nat.le_of_ble_eq_true rfl, Nat.le_of_ble_eq_true rfl⟩ rfl rfl [0] (by decide) rfl [] rfl (fun _ => rfl) (ci := 8) rfl rfl rfl rfl rfl (Nat.le_of_ble_eq_true rfl) dX8_divide_81 ⟨Nat.zero_le _, Nat.zero_le _⟩ (fun w_13 H locs hw hP hD hS => ?_)
          have hP : va_P D vwCl [(a_this, oX8 a_this_bytes a_this_keys a_this_reg a_this_card a_this_filled a_this_taken a_this_line a_this_one a_this_two w_13), (a_this_reg, .inl (k_this_reg, 16, .inl r_this_reg))] H := hP
          have hD : va_D A [(a_this, oX8 a_this_bytes a_this_keys a_this_reg a_this_card a_this_filled a_this_taken a_this_line a_this_one a_this_two w_13), (a_this_reg, .inl (k_this_reg, 16, .inl r_this_reg))] := hD
          rw [q_let_of hw] at hF
          rw [q_let_of hw] at hs
          refine lv_aload_n hx hb dX8_divide_84 rfl (lv_at hl 3 rfl) ?_
          refine gf_X8_38 (v := .int w_13.2.2.2.2.2.2.2.2.1) hx hb hown ht hK hP 0 rfl rfl dX8_divide_85 ?_
          refine lv_if_ne (tgt := 114) hx hb dX8_divide_88 (by decide) (fun c_14 => ?_) (fun c_14 => ?_)
          · skip
            rw [if_neg c_14] at hF
            rw [if_neg c_14] at hs
            exact hQ (w_13, r_this_reg) _ _ _ _ dX8_divide_114 hF.symm hP hD hS
          · skip
            rw [if_pos c_14] at hF
            rw [if_pos c_14] at hs
            refine lv_aload_n hx hb dX8_divide_91 rfl (lv_at hl 3 rfl) ?_
            refine gf_X8_16 (v := .ref a_this_reg) hx hb hown ht hK hP 0 rfl rfl dX8_divide_92 ?_
            refine lv_iload_n hx hb dX8_divide_95 rfl (lv_at hl 4 rfl) ?_
            refine lv_lload hx hb dX8_divide_96 (lv_at hl 1 rfl) ?_
            refine lv_iload_n hx hb dX8_divide_98 rfl (lv_at hl 5 rfl) ?_
            refine lv_i2l hx hb dX8_divide_99 rfl ?_
            obtain ⟨hi_15, hs⟩ := hs
            refine lv_lrem hx hb dX8_divide_100 hi_15 ?_
            refine lv_l2i hx hb dX8_divide_101 rfl ?_
            obtain ⟨hi_16, hs⟩ := hs
            refine va_iast hx hb hK hP hD hS 1 0 rfl rfl hi_16 dX8_divide_102 (fun H locs hP hD hS => ?_)
            have hP : va_P D vwCl [(a_this, oX8 a_this_bytes a_this_keys a_this_reg a_this_card a_this_filled a_this_taken a_this_line a_this_one a_this_two w_13), (a_this_reg, .inl (k_this_reg, 16, .inl (upd r_this_reg p1.toNatClampNeg ((((((r_this_reg p1.toNatClampNeg).toInt64) <<< ((32 : Int32).toInt64 &&& 63)) + ((r_this_reg (p1 + (1 : Int32)).toNatClampNeg).toInt64)) - ((((r_this_reg p1.toNatClampNeg).toInt64) <<< ((32 : Int32).toInt64 &&& 63)) + ((r_this_reg (p1 + (1 : Int32)).toNatClampNeg).toInt64)) / p2.toInt64 * p2.toInt64).toInt32))))] H := hP
            have hD : va_D A [(a_this, oX8 a_this_bytes a_this_keys a_this_reg a_this_card a_this_filled a_this_taken a_this_line a_this_one a_this_two w_13), (a_this_reg, .inl (k_this_reg, 16, .inl (upd r_this_reg p1.toNatClampNeg ((((((r_this_reg p1.toNatClampNeg).toInt64) <<< ((32 : Int32).toInt64 &&& 63)) + ((r_this_reg (p1 + (1 : Int32)).toNatClampNeg).toInt64)) - ((((r_this_reg p1.toNatClampNeg).toInt64) <<< ((32 : Int32).toInt64 &&& 63)) + ((r_this_reg (p1 + (1 : Int32)).toNatClampNeg).toInt64)) / p2.toInt64 * p2.toInt64).toInt32))))] := hD
            refine lv_aload_n hx hb dX8_divide_103 rfl (lv_at hl 3 rfl) ?_
            refine gf_X8_16 (v := .ref a_this_reg) hx hb hown ht hK hP 0 rfl rfl dX8_divide_104 ?_
            refine lv_iload_n hx hb dX8_divide_107 rfl (lv_at hl 4 rfl) ?_
            refine lv_iconst (v := 1) hx hb dX8_divide_108 (by decide) ?_
            refine lv_iadd hx hb dX8_divide_109 ?_
            refine lv_lload hx hb dX8_divide_110 (lv_at hl 0 rfl) ?_
            refine lv_l2i hx hb dX8_divide_112 rfl ?_
            have hi_17 := hs
            refine va_iast hx hb hK hP hD hS 1 0 rfl rfl hi_17 dX8_divide_113 (fun H locs hP hD hS => ?_)
            have hP : va_P D vwCl [(a_this, oX8 a_this_bytes a_this_keys a_this_reg a_this_card a_this_filled a_this_taken a_this_line a_this_one a_this_two w_13), (a_this_reg, .inl (k_this_reg, 16, .inl (upd (upd r_this_reg p1.toNatClampNeg ((((((r_this_reg p1.toNatClampNeg).toInt64) <<< ((32 : Int32).toInt64 &&& 63)) + ((r_this_reg (p1 + (1 : Int32)).toNatClampNeg).toInt64)) - ((((r_this_reg p1.toNatClampNeg).toInt64) <<< ((32 : Int32).toInt64 &&& 63)) + ((r_this_reg (p1 + (1 : Int32)).toNatClampNeg).toInt64)) / p2.toInt64 * p2.toInt64).toInt32)) (p1 + (1 : Int32)).toNatClampNeg ((((((r_this_reg p1.toNatClampNeg).toInt64) <<< ((32 : Int32).toInt64 &&& 63)) + ((r_this_reg (p1 + (1 : Int32)).toNatClampNeg).toInt64)) / p2.toInt64).toInt32))))] H := hP
            have hD : va_D A [(a_this, oX8 a_this_bytes a_this_keys a_this_reg a_this_card a_this_filled a_this_taken a_this_line a_this_one a_this_two w_13), (a_this_reg, .inl (k_this_reg, 16, .inl (upd (upd r_this_reg p1.toNatClampNeg ((((((r_this_reg p1.toNatClampNeg).toInt64) <<< ((32 : Int32).toInt64 &&& 63)) + ((r_this_reg (p1 + (1 : Int32)).toNatClampNeg).toInt64)) - ((((r_this_reg p1.toNatClampNeg).toInt64) <<< ((32 : Int32).toInt64 &&& 63)) + ((r_this_reg (p1 + (1 : Int32)).toNatClampNeg).toInt64)) / p2.toInt64 * p2.toInt64).toInt32)) (p1 + (1 : Int32)).toNatClampNeg ((((((r_this_reg p1.toNatClampNeg).toInt64) <<< ((32 : Int32).toInt64 &&& 63)) + ((r_this_reg (p1 + (1 : Int32)).toNatClampNeg).toInt64)) / p2.toInt64).toInt32))))] := hD
            exact hQ (w_13, (upd (upd r_this_reg p1.toNatClampNeg ((((((r_this_reg p1.toNatClampNeg).toInt64) <<< ((32 : Int32).toInt64 &&& 63)) + ((r_this_reg (p1 + (1 : Int32)).toNatClampNeg).toInt64)) - ((((r_this_reg p1.toNatClampNeg).toInt64) <<< ((32 : Int32).toInt64 &&& 63)) + ((r_this_reg (p1 + (1 : Int32)).toNatClampNeg).toInt64)) / p2.toInt64 * p2.toInt64).toInt32)) (p1 + (1 : Int32)).toNatClampNeg ((((((r_this_reg p1.toNatClampNeg).toInt64) <<< ((32 : Int32).toInt64 &&& 63)) + ((r_this_reg (p1 + (1 : Int32)).toNatClampNeg).toInt64)) / p2.toInt64).toInt32))) _ _ _ _ dX8_divide_114 hF.symm hP hD hS
        · skip
          rw [if_neg c_12] at hF
          rw [if_neg c_12] at hs
          refine lv_iconst (v := 1) hx hb dX8_divide_74 (by decide) ?_
          refine lv_goto (tgt := 79) hx hb dX8_divide_75 (by decide) ?_
          refine lv_bipush (v := 9) hx hb dX8_divide_79 (by decide) ?_
          refine q_Vv (rest := []) (c_X8_wrong l D a_this a_this_bytes a_this_keys a_this_reg a_this_card a_this_filled a_this_taken a_this_line a_this_one a_this_two o_this true 9) cv_X8_wrong hx hb hml hown ht hN hK hA hP hD hS hl.1 (km_X8_42) ⟨Nat.le_of_ble_eq_true rfl, Nat.le_of_ble_eq_true rfl⟩ rfl rfl [0] (by decide) rfl [] rfl (fun _ => rfl) (ci := 8) rfl rfl rfl rfl rfl (Nat.le_of_ble_eq_true rfl) dX8_divide_81 ⟨Nat.zero_le _, Nat.zero_le _⟩ (fun w_18 H locs hw hP hD hS => ?_)
          have hP : va_P D vwCl [(a_this, oX8 a_this_bytes a_this_keys a_this_reg a_this_card a_this_filled a_this_taken a_this_line a_this_one a_this_two w_18), (a_this_reg, .inl (k_this_reg, 16, .inl r_this_reg))] H := hP
          have hD : va_D A [(a_this, oX8 a_this_bytes a_this_keys a_this_reg a_this_card a_this_filled a_this_taken a_this_line a_this_one a_this_two w_18), (a_this_reg, .inl (k_this_reg, 16, .inl r_this_reg))] := hD
          rw [q_let_of hw] at hF
          rw [q_let_of hw] at hs
          refine lv_aload_n hx hb dX8_divide_84 rfl (lv_at hl 3 rfl) ?_
          refine gf_X8_38 (v := .int w_18.2.2.2.2.2.2.2.2.1) hx hb hown ht hK hP 0 rfl rfl dX8_divide_85 ?_
          refine lv_if_ne (tgt := 114) hx hb dX8_divide_88 (by decide) (fun c_19 => ?_) (fun c_19 => ?_)
          · skip
            rw [if_neg c_19] at hF
            rw [if_neg c_19] at hs
            exact hQ (w_18, r_this_reg) _ _ _ _ dX8_divide_114 hF.symm hP hD hS
          · skip
            rw [if_pos c_19] at hF
            rw [if_pos c_19] at hs
            refine lv_aload_n hx hb dX8_divide_91 rfl (lv_at hl 3 rfl) ?_
            refine gf_X8_16 (v := .ref a_this_reg) hx hb hown ht hK hP 0 rfl rfl dX8_divide_92 ?_
            refine lv_iload_n hx hb dX8_divide_95 rfl (lv_at hl 4 rfl) ?_
            refine lv_lload hx hb dX8_divide_96 (lv_at hl 1 rfl) ?_
            refine lv_iload_n hx hb dX8_divide_98 rfl (lv_at hl 5 rfl) ?_
            refine lv_i2l hx hb dX8_divide_99 rfl ?_
            obtain ⟨hi_20, hs⟩ := hs
            refine lv_lrem hx hb dX8_divide_100 hi_20 ?_
            refine lv_l2i hx hb dX8_divide_101 rfl ?_
            obtain ⟨hi_21, hs⟩ := hs
            refine va_iast hx hb hK hP hD hS 1 0 rfl rfl hi_21 dX8_divide_102 (fun H locs hP hD hS => ?_)
            have hP : va_P D vwCl [(a_this, oX8 a_this_bytes a_this_keys a_this_reg a_this_card a_this_filled a_this_taken a_this_line a_this_one a_this_two w_18), (a_this_reg, .inl (k_this_reg, 16, .inl (upd r_this_reg p1.toNatClampNeg ((((((r_this_reg p1.toNatClampNeg).toInt64) <<< ((32 : Int32).toInt64 &&& 63)) + ((r_this_reg (p1 + (1 : Int32)).toNatClampNeg).toInt64)) - ((((r_this_reg p1.toNatClampNeg).toInt64) <<< ((32 : Int32).toInt64 &&& 63)) + ((r_this_reg (p1 + (1 : Int32)).toNatClampNeg).toInt64)) / p2.toInt64 * p2.toInt64).toInt32))))] H := hP
            have hD : va_D A [(a_this, oX8 a_this_bytes a_this_keys a_this_reg a_this_card a_this_filled a_this_taken a_this_line a_this_one a_this_two w_18), (a_this_reg, .inl (k_this_reg, 16, .inl (upd r_this_reg p1.toNatClampNeg ((((((r_this_reg p1.toNatClampNeg).toInt64) <<< ((32 : Int32).toInt64 &&& 63)) + ((r_this_reg (p1 + (1 : Int32)).toNatClampNeg).toInt64)) - ((((r_this_reg p1.toNatClampNeg).toInt64) <<< ((32 : Int32).toInt64 &&& 63)) + ((r_this_reg (p1 + (1 : Int32)).toNatClampNeg).toInt64)) / p2.toInt64 * p2.toInt64).toInt32))))] := hD
            refine lv_aload_n hx hb dX8_divide_103 rfl (lv_at hl 3 rfl) ?_
            refine gf_X8_16 (v := .ref a_this_reg) hx hb hown ht hK hP 0 rfl rfl dX8_divide_104 ?_
            refine lv_iload_n hx hb dX8_divide_107 rfl (lv_at hl 4 rfl) ?_
            refine lv_iconst (v := 1) hx hb dX8_divide_108 (by decide) ?_
            refine lv_iadd hx hb dX8_divide_109 ?_
            refine lv_lload hx hb dX8_divide_110 (lv_at hl 0 rfl) ?_
            refine lv_l2i hx hb dX8_divide_112 rfl ?_
            have hi_22 := hs
            refine va_iast hx hb hK hP hD hS 1 0 rfl rfl hi_22 dX8_divide_113 (fun H locs hP hD hS => ?_)
            have hP : va_P D vwCl [(a_this, oX8 a_this_bytes a_this_keys a_this_reg a_this_card a_this_filled a_this_taken a_this_line a_this_one a_this_two w_18), (a_this_reg, .inl (k_this_reg, 16, .inl (upd (upd r_this_reg p1.toNatClampNeg ((((((r_this_reg p1.toNatClampNeg).toInt64) <<< ((32 : Int32).toInt64 &&& 63)) + ((r_this_reg (p1 + (1 : Int32)).toNatClampNeg).toInt64)) - ((((r_this_reg p1.toNatClampNeg).toInt64) <<< ((32 : Int32).toInt64 &&& 63)) + ((r_this_reg (p1 + (1 : Int32)).toNatClampNeg).toInt64)) / p2.toInt64 * p2.toInt64).toInt32)) (p1 + (1 : Int32)).toNatClampNeg ((((((r_this_reg p1.toNatClampNeg).toInt64) <<< ((32 : Int32).toInt64 &&& 63)) + ((r_this_reg (p1 + (1 : Int32)).toNatClampNeg).toInt64)) / p2.toInt64).toInt32))))] H := hP
            have hD : va_D A [(a_this, oX8 a_this_bytes a_this_keys a_this_reg a_this_card a_this_filled a_this_taken a_this_line a_this_one a_this_two w_18), (a_this_reg, .inl (k_this_reg, 16, .inl (upd (upd r_this_reg p1.toNatClampNeg ((((((r_this_reg p1.toNatClampNeg).toInt64) <<< ((32 : Int32).toInt64 &&& 63)) + ((r_this_reg (p1 + (1 : Int32)).toNatClampNeg).toInt64)) - ((((r_this_reg p1.toNatClampNeg).toInt64) <<< ((32 : Int32).toInt64 &&& 63)) + ((r_this_reg (p1 + (1 : Int32)).toNatClampNeg).toInt64)) / p2.toInt64 * p2.toInt64).toInt32)) (p1 + (1 : Int32)).toNatClampNeg ((((((r_this_reg p1.toNatClampNeg).toInt64) <<< ((32 : Int32).toInt64 &&& 63)) + ((r_this_reg (p1 + (1 : Int32)).toNatClampNeg).toInt64)) / p2.toInt64).toInt32))))] := hD
            exact hQ (w_18, (upd (upd r_this_reg p1.toNatClampNeg ((((((r_this_reg p1.toNatClampNeg).toInt64) <<< ((32 : Int32).toInt64 &&& 63)) + ((r_this_reg (p1 + (1 : Int32)).toNatClampNeg).toInt64)) - ((((r_this_reg p1.toNatClampNeg).toInt64) <<< ((32 : Int32).toInt64 &&& 63)) + ((r_this_reg (p1 + (1 : Int32)).toNatClampNeg).toInt64)) / p2.toInt64 * p2.toInt64).toInt32)) (p1 + (1 : Int32)).toNatClampNeg ((((((r_this_reg p1.toNatClampNeg).toInt64) <<< ((32 : Int32).toInt64 &&& 63)) + ((r_this_reg (p1 + (1 : Int32)).toNatClampNeg).toInt64)) / p2.toInt64).toInt32))) _ _ _ _ dX8_divide_114 hF.symm hP hD hS
    · skip
      rw [if_pos c_4] at hF
      rw [if_pos c_4] at hs
      refine lv_ldc2 (v := 4294967296) hx hb hown (ht _ kj_X8_149) dX8_divide_42 ?_
      refine lv_goto (tgt := 53) hx hb dX8_divide_45 (by decide) ?_
      refine lv_lstore (lv' := [(7, .long 4294967296), (5, .long ((((r_this_reg p1.toNatClampNeg).toInt64) <<< ((32 : Int32).toInt64 &&& 63)) + ((r_this_reg (p1 + (1 : Int32)).toNatClampNeg).toInt64))), (3, .long ((r_this_reg (p1 + (1 : Int32)).toNatClampNeg).toInt64)), (0, .ref a_this), (1, .int p1), (2, .int p2)]) hx hb dX8_divide_53 hl (by decide) rfl (fun ls hl => ?_)
      refine lv_aload_n hx hb dX8_divide_55 rfl (lv_at hl 3 rfl) ?_
      refine lv_lload hx hb dX8_divide_56 (lv_at hl 0 rfl) ?_
      refine lv_ldc2 (v := 2147483647) hx hb hown (ht _ kj_X8_151) dX8_divide_58 ?_
      refine W.lcmp hx hb dX8_divide_61 ?_
      refine lv_if_gt (tgt := 74) hx hb dX8_divide_62 (by decide) (fun c_23 => ?_) (fun c_23 => ?_)
      · skip
        rw [if_pos c_23] at hF
        rw [if_pos c_23] at hs
        refine lv_iconst (v := 1) hx hb dX8_divide_74 (by decide) ?_
        refine lv_goto (tgt := 79) hx hb dX8_divide_75 (by decide) ?_
        refine lv_bipush (v := 9) hx hb dX8_divide_79 (by decide) ?_
        refine q_Vv (rest := []) (c_X8_wrong l D a_this a_this_bytes a_this_keys a_this_reg a_this_card a_this_filled a_this_taken a_this_line a_this_one a_this_two o_this true 9) cv_X8_wrong hx hb hml hown ht hN hK hA hP hD hS hl.1 (km_X8_42) ⟨Nat.le_of_ble_eq_true rfl, Nat.le_of_ble_eq_true rfl⟩ rfl rfl [0] (by decide) rfl [] rfl (fun _ => rfl) (ci := 8) rfl rfl rfl rfl rfl (Nat.le_of_ble_eq_true rfl) dX8_divide_81 ⟨Nat.zero_le _, Nat.zero_le _⟩ (fun w_24 H locs hw hP hD hS => ?_)
        have hP : va_P D vwCl [(a_this, oX8 a_this_bytes a_this_keys a_this_reg a_this_card a_this_filled a_this_taken a_this_line a_this_one a_this_two w_24), (a_this_reg, .inl (k_this_reg, 16, .inl r_this_reg))] H := hP
        have hD : va_D A [(a_this, oX8 a_this_bytes a_this_keys a_this_reg a_this_card a_this_filled a_this_taken a_this_line a_this_one a_this_two w_24), (a_this_reg, .inl (k_this_reg, 16, .inl r_this_reg))] := hD
        rw [q_let_of hw] at hF
        rw [q_let_of hw] at hs
        refine lv_aload_n hx hb dX8_divide_84 rfl (lv_at hl 3 rfl) ?_
        refine gf_X8_38 (v := .int w_24.2.2.2.2.2.2.2.2.1) hx hb hown ht hK hP 0 rfl rfl dX8_divide_85 ?_
        refine lv_if_ne (tgt := 114) hx hb dX8_divide_88 (by decide) (fun c_25 => ?_) (fun c_25 => ?_)
        · skip
          rw [if_neg c_25] at hF
          rw [if_neg c_25] at hs
          exact hQ (w_24, r_this_reg) _ _ _ _ dX8_divide_114 hF.symm hP hD hS
        · skip
          rw [if_pos c_25] at hF
          rw [if_pos c_25] at hs
          refine lv_aload_n hx hb dX8_divide_91 rfl (lv_at hl 3 rfl) ?_
          refine gf_X8_16 (v := .ref a_this_reg) hx hb hown ht hK hP 0 rfl rfl dX8_divide_92 ?_
          refine lv_iload_n hx hb dX8_divide_95 rfl (lv_at hl 4 rfl) ?_
          refine lv_lload hx hb dX8_divide_96 (lv_at hl 1 rfl) ?_
          refine lv_iload_n hx hb dX8_divide_98 rfl (lv_at hl 5 rfl) ?_
          refine lv_i2l hx hb dX8_divide_99 rfl ?_
          obtain ⟨hi_26, hs⟩ := hs
          refine lv_lrem hx hb dX8_divide_100 hi_26 ?_
          refine lv_l2i hx hb dX8_divide_101 rfl ?_
          obtain ⟨hi_27, hs⟩ := hs
          refine va_iast hx hb hK hP hD hS 1 0 rfl rfl hi_27 dX8_divide_102 (fun H locs hP hD hS => ?_)
          have hP : va_P D vwCl [(a_this, oX8 a_this_bytes a_this_keys a_this_reg a_this_card a_this_filled a_this_taken a_this_line a_this_one a_this_two w_24), (a_this_reg, .inl (k_this_reg, 16, .inl (upd r_this_reg p1.toNatClampNeg ((((((r_this_reg p1.toNatClampNeg).toInt64) <<< ((32 : Int32).toInt64 &&& 63)) + ((r_this_reg (p1 + (1 : Int32)).toNatClampNeg).toInt64)) - ((((r_this_reg p1.toNatClampNeg).toInt64) <<< ((32 : Int32).toInt64 &&& 63)) + ((r_this_reg (p1 + (1 : Int32)).toNatClampNeg).toInt64)) / p2.toInt64 * p2.toInt64).toInt32))))] H := hP
          have hD : va_D A [(a_this, oX8 a_this_bytes a_this_keys a_this_reg a_this_card a_this_filled a_this_taken a_this_line a_this_one a_this_two w_24), (a_this_reg, .inl (k_this_reg, 16, .inl (upd r_this_reg p1.toNatClampNeg ((((((r_this_reg p1.toNatClampNeg).toInt64) <<< ((32 : Int32).toInt64 &&& 63)) + ((r_this_reg (p1 + (1 : Int32)).toNatClampNeg).toInt64)) - ((((r_this_reg p1.toNatClampNeg).toInt64) <<< ((32 : Int32).toInt64 &&& 63)) + ((r_this_reg (p1 + (1 : Int32)).toNatClampNeg).toInt64)) / p2.toInt64 * p2.toInt64).toInt32))))] := hD
          refine lv_aload_n hx hb dX8_divide_103 rfl (lv_at hl 3 rfl) ?_
          refine gf_X8_16 (v := .ref a_this_reg) hx hb hown ht hK hP 0 rfl rfl dX8_divide_104 ?_
          refine lv_iload_n hx hb dX8_divide_107 rfl (lv_at hl 4 rfl) ?_
          refine lv_iconst (v := 1) hx hb dX8_divide_108 (by decide) ?_
          refine lv_iadd hx hb dX8_divide_109 ?_
          refine lv_lload hx hb dX8_divide_110 (lv_at hl 0 rfl) ?_
          refine lv_l2i hx hb dX8_divide_112 rfl ?_
          have hi_28 := hs
          refine va_iast hx hb hK hP hD hS 1 0 rfl rfl hi_28 dX8_divide_113 (fun H locs hP hD hS => ?_)
          have hP : va_P D vwCl [(a_this, oX8 a_this_bytes a_this_keys a_this_reg a_this_card a_this_filled a_this_taken a_this_line a_this_one a_this_two w_24), (a_this_reg, .inl (k_this_reg, 16, .inl (upd (upd r_this_reg p1.toNatClampNeg ((((((r_this_reg p1.toNatClampNeg).toInt64) <<< ((32 : Int32).toInt64 &&& 63)) + ((r_this_reg (p1 + (1 : Int32)).toNatClampNeg).toInt64)) - ((((r_this_reg p1.toNatClampNeg).toInt64) <<< ((32 : Int32).toInt64 &&& 63)) + ((r_this_reg (p1 + (1 : Int32)).toNatClampNeg).toInt64)) / p2.toInt64 * p2.toInt64).toInt32)) (p1 + (1 : Int32)).toNatClampNeg ((4294967296 : Int64).toInt32))))] H := hP
          have hD : va_D A [(a_this, oX8 a_this_bytes a_this_keys a_this_reg a_this_card a_this_filled a_this_taken a_this_line a_this_one a_this_two w_24), (a_this_reg, .inl (k_this_reg, 16, .inl (upd (upd r_this_reg p1.toNatClampNeg ((((((r_this_reg p1.toNatClampNeg).toInt64) <<< ((32 : Int32).toInt64 &&& 63)) + ((r_this_reg (p1 + (1 : Int32)).toNatClampNeg).toInt64)) - ((((r_this_reg p1.toNatClampNeg).toInt64) <<< ((32 : Int32).toInt64 &&& 63)) + ((r_this_reg (p1 + (1 : Int32)).toNatClampNeg).toInt64)) / p2.toInt64 * p2.toInt64).toInt32)) (p1 + (1 : Int32)).toNatClampNeg ((4294967296 : Int64).toInt32))))] := hD
          exact hQ (w_24, (upd (upd r_this_reg p1.toNatClampNeg ((((((r_this_reg p1.toNatClampNeg).toInt64) <<< ((32 : Int32).toInt64 &&& 63)) + ((r_this_reg (p1 + (1 : Int32)).toNatClampNeg).toInt64)) - ((((r_this_reg p1.toNatClampNeg).toInt64) <<< ((32 : Int32).toInt64 &&& 63)) + ((r_this_reg (p1 + (1 : Int32)).toNatClampNeg).toInt64)) / p2.toInt64 * p2.toInt64).toInt32)) (p1 + (1 : Int32)).toNatClampNeg ((4294967296 : Int64).toInt32))) _ _ _ _ dX8_divide_114 hF.symm hP hD hS
      · skip
        rw [if_neg c_23] at hF
        rw [if_neg c_23] at hs
        refine lv_lload hx hb dX8_divide_65 (lv_at hl 0 rfl) ?_
        refine lv_ldc2 (v := (-2147483648)) hx hb hown (ht _ kj_X8_153) dX8_divide_67 ?_
        refine W.lcmp hx hb dX8_divide_70 ?_
        refine lv_if_ge (tgt := 78) hx hb dX8_divide_71 (by decide) (fun c_29 => ?_) (fun c_29 => ?_)
        · skip
          rw [if_pos c_29] at hF
          rw [if_pos c_29] at hs
          refine lv_iconst (v := 0) hx hb dX8_divide_78 (by decide) ?_
          refine lv_bipush (v := 9) hx hb dX8_divide_79 (by decide) ?_
          refine q_Vv (rest := []) (c_X8_wrong l D a_this a_this_bytes a_this_keys a_this_reg a_this_card a_this_filled a_this_taken a_this_line a_this_one a_this_two o_this false 9) cv_X8_wrong hx hb hml hown ht hN hK hA hP hD hS hl.1 (km_X8_42) ⟨Nat.le_of_ble_eq_true rfl, Nat.le_of_ble_eq_true rfl⟩ rfl rfl [0] (by decide) rfl [] rfl (fun _ => rfl) (ci := 8) rfl rfl rfl rfl rfl (Nat.le_of_ble_eq_true rfl) dX8_divide_81 ⟨Nat.zero_le _, Nat.zero_le _⟩ (fun w_30 H locs hw hP hD hS => ?_)
          have hP : va_P D vwCl [(a_this, oX8 a_this_bytes a_this_keys a_this_reg a_this_card a_this_filled a_this_taken a_this_line a_this_one a_this_two w_30), (a_this_reg, .inl (k_this_reg, 16, .inl r_this_reg))] H := hP
          have hD : va_D A [(a_this, oX8 a_this_bytes a_this_keys a_this_reg a_this_card a_this_filled a_this_taken a_this_line a_this_one a_this_two w_30), (a_this_reg, .inl (k_this_reg, 16, .inl r_this_reg))] := hD
          rw [q_let_of hw] at hF
          rw [q_let_of hw] at hs
          refine lv_aload_n hx hb dX8_divide_84 rfl (lv_at hl 3 rfl) ?_
          refine gf_X8_38 (v := .int w_30.2.2.2.2.2.2.2.2.1) hx hb hown ht hK hP 0 rfl rfl dX8_divide_85 ?_
          refine lv_if_ne (tgt := 114) hx hb dX8_divide_88 (by decide) (fun c_31 => ?_) (fun c_31 => ?_)
          · skip
            rw [if_neg c_31] at hF
            rw [if_neg c_31] at hs
            exact hQ (w_30, r_this_reg) _ _ _ _ dX8_divide_114 hF.symm hP hD hS
          · skip
            rw [if_pos c_31] at hF
            rw [if_pos c_31] at hs
            refine lv_aload_n hx hb dX8_divide_91 rfl (lv_at hl 3 rfl) ?_
            refine gf_X8_16 (v := .ref a_this_reg) hx hb hown ht hK hP 0 rfl rfl dX8_divide_92 ?_
            refine lv_iload_n hx hb dX8_divide_95 rfl (lv_at hl 4 rfl) ?_
            refine lv_lload hx hb dX8_divide_96 (lv_at hl 1 rfl) ?_
            refine lv_iload_n hx hb dX8_divide_98 rfl (lv_at hl 5 rfl) ?_
            refine lv_i2l hx hb dX8_divide_99 rfl ?_
            obtain ⟨hi_32, hs⟩ := hs
            refine lv_lrem hx hb dX8_divide_100 hi_32 ?_
            refine lv_l2i hx hb dX8_divide_101 rfl ?_
            obtain ⟨hi_33, hs⟩ := hs
            refine va_iast hx hb hK hP hD hS 1 0 rfl rfl hi_33 dX8_divide_102 (fun H locs hP hD hS => ?_)
            have hP : va_P D vwCl [(a_this, oX8 a_this_bytes a_this_keys a_this_reg a_this_card a_this_filled a_this_taken a_this_line a_this_one a_this_two w_30), (a_this_reg, .inl (k_this_reg, 16, .inl (upd r_this_reg p1.toNatClampNeg ((((((r_this_reg p1.toNatClampNeg).toInt64) <<< ((32 : Int32).toInt64 &&& 63)) + ((r_this_reg (p1 + (1 : Int32)).toNatClampNeg).toInt64)) - ((((r_this_reg p1.toNatClampNeg).toInt64) <<< ((32 : Int32).toInt64 &&& 63)) + ((r_this_reg (p1 + (1 : Int32)).toNatClampNeg).toInt64)) / p2.toInt64 * p2.toInt64).toInt32))))] H := hP
            have hD : va_D A [(a_this, oX8 a_this_bytes a_this_keys a_this_reg a_this_card a_this_filled a_this_taken a_this_line a_this_one a_this_two w_30), (a_this_reg, .inl (k_this_reg, 16, .inl (upd r_this_reg p1.toNatClampNeg ((((((r_this_reg p1.toNatClampNeg).toInt64) <<< ((32 : Int32).toInt64 &&& 63)) + ((r_this_reg (p1 + (1 : Int32)).toNatClampNeg).toInt64)) - ((((r_this_reg p1.toNatClampNeg).toInt64) <<< ((32 : Int32).toInt64 &&& 63)) + ((r_this_reg (p1 + (1 : Int32)).toNatClampNeg).toInt64)) / p2.toInt64 * p2.toInt64).toInt32))))] := hD
            refine lv_aload_n hx hb dX8_divide_103 rfl (lv_at hl 3 rfl) ?_
            refine gf_X8_16 (v := .ref a_this_reg) hx hb hown ht hK hP 0 rfl rfl dX8_divide_104 ?_
            refine lv_iload_n hx hb dX8_divide_107 rfl (lv_at hl 4 rfl) ?_
            refine lv_iconst (v := 1) hx hb dX8_divide_108 (by decide) ?_
            refine lv_iadd hx hb dX8_divide_109 ?_
            refine lv_lload hx hb dX8_divide_110 (lv_at hl 0 rfl) ?_
            refine lv_l2i hx hb dX8_divide_112 rfl ?_
            have hi_34 := hs
            refine va_iast hx hb hK hP hD hS 1 0 rfl rfl hi_34 dX8_divide_113 (fun H locs hP hD hS => ?_)
            have hP : va_P D vwCl [(a_this, oX8 a_this_bytes a_this_keys a_this_reg a_this_card a_this_filled a_this_taken a_this_line a_this_one a_this_two w_30), (a_this_reg, .inl (k_this_reg, 16, .inl (upd (upd r_this_reg p1.toNatClampNeg ((((((r_this_reg p1.toNatClampNeg).toInt64) <<< ((32 : Int32).toInt64 &&& 63)) + ((r_this_reg (p1 + (1 : Int32)).toNatClampNeg).toInt64)) - ((((r_this_reg p1.toNatClampNeg).toInt64) <<< ((32 : Int32).toInt64 &&& 63)) + ((r_this_reg (p1 + (1 : Int32)).toNatClampNeg).toInt64)) / p2.toInt64 * p2.toInt64).toInt32)) (p1 + (1 : Int32)).toNatClampNeg ((4294967296 : Int64).toInt32))))] H := hP
            have hD : va_D A [(a_this, oX8 a_this_bytes a_this_keys a_this_reg a_this_card a_this_filled a_this_taken a_this_line a_this_one a_this_two w_30), (a_this_reg, .inl (k_this_reg, 16, .inl (upd (upd r_this_reg p1.toNatClampNeg ((((((r_this_reg p1.toNatClampNeg).toInt64) <<< ((32 : Int32).toInt64 &&& 63)) + ((r_this_reg (p1 + (1 : Int32)).toNatClampNeg).toInt64)) - ((((r_this_reg p1.toNatClampNeg).toInt64) <<< ((32 : Int32).toInt64 &&& 63)) + ((r_this_reg (p1 + (1 : Int32)).toNatClampNeg).toInt64)) / p2.toInt64 * p2.toInt64).toInt32)) (p1 + (1 : Int32)).toNatClampNeg ((4294967296 : Int64).toInt32))))] := hD
            exact hQ (w_30, (upd (upd r_this_reg p1.toNatClampNeg ((((((r_this_reg p1.toNatClampNeg).toInt64) <<< ((32 : Int32).toInt64 &&& 63)) + ((r_this_reg (p1 + (1 : Int32)).toNatClampNeg).toInt64)) - ((((r_this_reg p1.toNatClampNeg).toInt64) <<< ((32 : Int32).toInt64 &&& 63)) + ((r_this_reg (p1 + (1 : Int32)).toNatClampNeg).toInt64)) / p2.toInt64 * p2.toInt64).toInt32)) (p1 + (1 : Int32)).toNatClampNeg ((4294967296 : Int64).toInt32))) _ _ _ _ dX8_divide_114 hF.symm hP hD hS
        · skip
          rw [if_neg c_29] at hF
          rw [if_neg c_29] at hs
          refine lv_iconst (v := 1) hx hb dX8_divide_74 (by decide) ?_
          refine lv_goto (tgt := 79) hx hb dX8_divide_75 (by decide) ?_
          refine lv_bipush (v := 9) hx hb dX8_divide_79 (by decide) ?_
          refine q_Vv (rest := []) (c_X8_wrong l D a_this a_this_bytes a_this_keys a_this_reg a_this_card a_this_filled a_this_taken a_this_line a_this_one a_this_two o_this true 9) cv_X8_wrong hx hb hml hown ht hN hK hA hP hD hS hl.1 (km_X8_42) ⟨Nat.le_of_ble_eq_true rfl, Nat.le_of_ble_eq_true rfl⟩ rfl rfl [0] (by decide) rfl [] rfl (fun _ => rfl) (ci := 8) rfl rfl rfl rfl rfl (Nat.le_of_ble_eq_true rfl) dX8_divide_81 ⟨Nat.zero_le _, Nat.zero_le _⟩ (fun w_35 H locs hw hP hD hS => ?_)
          have hP : va_P D vwCl [(a_this, oX8 a_this_bytes a_this_keys a_this_reg a_this_card a_this_filled a_this_taken a_this_line a_this_one a_this_two w_35), (a_this_reg, .inl (k_this_reg, 16, .inl r_this_reg))] H := hP
          have hD : va_D A [(a_this, oX8 a_this_bytes a_this_keys a_this_reg a_this_card a_this_filled a_this_taken a_this_line a_this_one a_this_two w_35), (a_this_reg, .inl (k_this_reg, 16, .inl r_this_reg))] := hD
          rw [q_let_of hw] at hF
          rw [q_let_of hw] at hs
          refine lv_aload_n hx hb dX8_divide_84 rfl (lv_at hl 3 rfl) ?_
          refine gf_X8_38 (v := .int w_35.2.2.2.2.2.2.2.2.1) hx hb hown ht hK hP 0 rfl rfl dX8_divide_85 ?_
          refine lv_if_ne (tgt := 114) hx hb dX8_divide_88 (by decide) (fun c_36 => ?_) (fun c_36 => ?_)
          · skip
            rw [if_neg c_36] at hF
            rw [if_neg c_36] at hs
            exact hQ (w_35, r_this_reg) _ _ _ _ dX8_divide_114 hF.symm hP hD hS
          · skip
            rw [if_pos c_36] at hF
            rw [if_pos c_36] at hs
            refine lv_aload_n hx hb dX8_divide_91 rfl (lv_at hl 3 rfl) ?_
            refine gf_X8_16 (v := .ref a_this_reg) hx hb hown ht hK hP 0 rfl rfl dX8_divide_92 ?_
            refine lv_iload_n hx hb dX8_divide_95 rfl (lv_at hl 4 rfl) ?_
            refine lv_lload hx hb dX8_divide_96 (lv_at hl 1 rfl) ?_
            refine lv_iload_n hx hb dX8_divide_98 rfl (lv_at hl 5 rfl) ?_
            refine lv_i2l hx hb dX8_divide_99 rfl ?_
            obtain ⟨hi_37, hs⟩ := hs
            refine lv_lrem hx hb dX8_divide_100 hi_37 ?_
            refine lv_l2i hx hb dX8_divide_101 rfl ?_
            obtain ⟨hi_38, hs⟩ := hs
            refine va_iast hx hb hK hP hD hS 1 0 rfl rfl hi_38 dX8_divide_102 (fun H locs hP hD hS => ?_)
            have hP : va_P D vwCl [(a_this, oX8 a_this_bytes a_this_keys a_this_reg a_this_card a_this_filled a_this_taken a_this_line a_this_one a_this_two w_35), (a_this_reg, .inl (k_this_reg, 16, .inl (upd r_this_reg p1.toNatClampNeg ((((((r_this_reg p1.toNatClampNeg).toInt64) <<< ((32 : Int32).toInt64 &&& 63)) + ((r_this_reg (p1 + (1 : Int32)).toNatClampNeg).toInt64)) - ((((r_this_reg p1.toNatClampNeg).toInt64) <<< ((32 : Int32).toInt64 &&& 63)) + ((r_this_reg (p1 + (1 : Int32)).toNatClampNeg).toInt64)) / p2.toInt64 * p2.toInt64).toInt32))))] H := hP
            have hD : va_D A [(a_this, oX8 a_this_bytes a_this_keys a_this_reg a_this_card a_this_filled a_this_taken a_this_line a_this_one a_this_two w_35), (a_this_reg, .inl (k_this_reg, 16, .inl (upd r_this_reg p1.toNatClampNeg ((((((r_this_reg p1.toNatClampNeg).toInt64) <<< ((32 : Int32).toInt64 &&& 63)) + ((r_this_reg (p1 + (1 : Int32)).toNatClampNeg).toInt64)) - ((((r_this_reg p1.toNatClampNeg).toInt64) <<< ((32 : Int32).toInt64 &&& 63)) + ((r_this_reg (p1 + (1 : Int32)).toNatClampNeg).toInt64)) / p2.toInt64 * p2.toInt64).toInt32))))] := hD
            refine lv_aload_n hx hb dX8_divide_103 rfl (lv_at hl 3 rfl) ?_
            refine gf_X8_16 (v := .ref a_this_reg) hx hb hown ht hK hP 0 rfl rfl dX8_divide_104 ?_
            refine lv_iload_n hx hb dX8_divide_107 rfl (lv_at hl 4 rfl) ?_
            refine lv_iconst (v := 1) hx hb dX8_divide_108 (by decide) ?_
            refine lv_iadd hx hb dX8_divide_109 ?_
            refine lv_lload hx hb dX8_divide_110 (lv_at hl 0 rfl) ?_
            refine lv_l2i hx hb dX8_divide_112 rfl ?_
            have hi_39 := hs
            refine va_iast hx hb hK hP hD hS 1 0 rfl rfl hi_39 dX8_divide_113 (fun H locs hP hD hS => ?_)
            have hP : va_P D vwCl [(a_this, oX8 a_this_bytes a_this_keys a_this_reg a_this_card a_this_filled a_this_taken a_this_line a_this_one a_this_two w_35), (a_this_reg, .inl (k_this_reg, 16, .inl (upd (upd r_this_reg p1.toNatClampNeg ((((((r_this_reg p1.toNatClampNeg).toInt64) <<< ((32 : Int32).toInt64 &&& 63)) + ((r_this_reg (p1 + (1 : Int32)).toNatClampNeg).toInt64)) - ((((r_this_reg p1.toNatClampNeg).toInt64) <<< ((32 : Int32).toInt64 &&& 63)) + ((r_this_reg (p1 + (1 : Int32)).toNatClampNeg).toInt64)) / p2.toInt64 * p2.toInt64).toInt32)) (p1 + (1 : Int32)).toNatClampNeg ((4294967296 : Int64).toInt32))))] H := hP
            have hD : va_D A [(a_this, oX8 a_this_bytes a_this_keys a_this_reg a_this_card a_this_filled a_this_taken a_this_line a_this_one a_this_two w_35), (a_this_reg, .inl (k_this_reg, 16, .inl (upd (upd r_this_reg p1.toNatClampNeg ((((((r_this_reg p1.toNatClampNeg).toInt64) <<< ((32 : Int32).toInt64 &&& 63)) + ((r_this_reg (p1 + (1 : Int32)).toNatClampNeg).toInt64)) - ((((r_this_reg p1.toNatClampNeg).toInt64) <<< ((32 : Int32).toInt64 &&& 63)) + ((r_this_reg (p1 + (1 : Int32)).toNatClampNeg).toInt64)) / p2.toInt64 * p2.toInt64).toInt32)) (p1 + (1 : Int32)).toNatClampNeg ((4294967296 : Int64).toInt32))))] := hD
            exact hQ (w_35, (upd (upd r_this_reg p1.toNatClampNeg ((((((r_this_reg p1.toNatClampNeg).toInt64) <<< ((32 : Int32).toInt64 &&& 63)) + ((r_this_reg (p1 + (1 : Int32)).toNatClampNeg).toInt64)) - ((((r_this_reg p1.toNatClampNeg).toInt64) <<< ((32 : Int32).toInt64 &&& 63)) + ((r_this_reg (p1 + (1 : Int32)).toNatClampNeg).toInt64)) / p2.toInt64 * p2.toInt64).toInt32)) (p1 + (1 : Int32)).toNatClampNeg ((4294967296 : Int64).toInt32))) _ _ _ _ dX8_divide_114 hF.symm hP hD hS
  · skip
    rw [if_neg c_3] at hF
    rw [if_neg c_3] at hs
    refine lv_lload_n hx hb dX8_divide_26 rfl (lv_at hl 0 rfl) ?_
    refine lv_ldc2 (v := 4294967296) hx hb hown (ht _ kj_X8_149) dX8_divide_27 ?_
    refine lv_ladd hx hb dX8_divide_30 ?_
    refine lv_goto (tgt := 35) hx hb dX8_divide_31 (by decide) ?_
    refine lv_ladd hx hb dX8_divide_35 ?_
    refine lv_lstore (lv' := [(5, .long ((((r_this_reg p1.toNatClampNeg).toInt64) <<< ((32 : Int32).toInt64 &&& 63)) + (((r_this_reg (p1 + (1 : Int32)).toNatClampNeg).toInt64) + (4294967296 : Int64)))), (3, .long ((r_this_reg (p1 + (1 : Int32)).toNatClampNeg).toInt64)), (0, .ref a_this), (1, .int p1), (2, .int p2)]) hx hb dX8_divide_36 hl (by decide) rfl (fun ls hl => ?_)
    refine lv_iload_n hx hb dX8_divide_38 rfl (lv_at hl 4 rfl) ?_
    refine lv_if_ne (tgt := 48) hx hb dX8_divide_39 (by decide) (fun c_40 => ?_) (fun c_40 => ?_)
    · skip
      rw [if_neg c_40] at hF
      rw [if_neg c_40] at hs
      refine lv_lload hx hb dX8_divide_48 (lv_at hl 0 rfl) ?_
      refine lv_iload_n hx hb dX8_divide_50 rfl (lv_at hl 4 rfl) ?_
      refine lv_i2l hx hb dX8_divide_51 rfl ?_
      obtain ⟨hi_41, hs⟩ := hs
      refine lv_ldiv hx hb dX8_divide_52 hi_41 ?_
      refine lv_lstore (lv' := [(7, .long (((((r_this_reg p1.toNatClampNeg).toInt64) <<< ((32 : Int32).toInt64 &&& 63)) + (((r_this_reg (p1 + (1 : Int32)).toNatClampNeg).toInt64) + (4294967296 : Int64))) / p2.toInt64)), (5, .long ((((r_this_reg p1.toNatClampNeg).toInt64) <<< ((32 : Int32).toInt64 &&& 63)) + (((r_this_reg (p1 + (1 : Int32)).toNatClampNeg).toInt64) + (4294967296 : Int64)))), (3, .long ((r_this_reg (p1 + (1 : Int32)).toNatClampNeg).toInt64)), (0, .ref a_this), (1, .int p1), (2, .int p2)]) hx hb dX8_divide_53 hl (by decide) rfl (fun ls hl => ?_)
      refine lv_aload_n hx hb dX8_divide_55 rfl (lv_at hl 3 rfl) ?_
      refine lv_lload hx hb dX8_divide_56 (lv_at hl 0 rfl) ?_
      refine lv_ldc2 (v := 2147483647) hx hb hown (ht _ kj_X8_151) dX8_divide_58 ?_
      refine W.lcmp hx hb dX8_divide_61 ?_
      refine lv_if_gt (tgt := 74) hx hb dX8_divide_62 (by decide) (fun c_42 => ?_) (fun c_42 => ?_)
      · skip
        rw [if_pos c_42] at hF
        rw [if_pos c_42] at hs
        refine lv_iconst (v := 1) hx hb dX8_divide_74 (by decide) ?_
        refine lv_goto (tgt := 79) hx hb dX8_divide_75 (by decide) ?_
        refine lv_bipush (v := 9) hx hb dX8_divide_79 (by decide) ?_
        refine q_Vv (rest := []) (c_X8_wrong l D a_this a_this_bytes a_this_keys a_this_reg a_this_card a_this_filled a_this_taken a_this_line a_this_one a_this_two o_this true 9) cv_X8_wrong hx hb hml hown ht hN hK hA hP hD hS hl.1 (km_X8_42) ⟨Nat.le_of_ble_eq_true rfl, Nat.le_of_ble_eq_true rfl⟩ rfl rfl [0] (by decide) rfl [] rfl (fun _ => rfl) (ci := 8) rfl rfl rfl rfl rfl (Nat.le_of_ble_eq_true rfl) dX8_divide_81 ⟨Nat.zero_le _, Nat.zero_le _⟩ (fun w_43 H locs hw hP hD hS => ?_)
        have hP : va_P D vwCl [(a_this, oX8 a_this_bytes a_this_keys a_this_reg a_this_card a_this_filled a_this_taken a_this_line a_this_one a_this_two w_43), (a_this_reg, .inl (k_this_reg, 16, .inl r_this_reg))] H := hP
        have hD : va_D A [(a_this, oX8 a_this_bytes a_this_keys a_this_reg a_this_card a_this_filled a_this_taken a_this_line a_this_one a_this_two w_43), (a_this_reg, .inl (k_this_reg, 16, .inl r_this_reg))] := hD
        rw [q_let_of hw] at hF
        rw [q_let_of hw] at hs
        refine lv_aload_n hx hb dX8_divide_84 rfl (lv_at hl 3 rfl) ?_
        refine gf_X8_38 (v := .int w_43.2.2.2.2.2.2.2.2.1) hx hb hown ht hK hP 0 rfl rfl dX8_divide_85 ?_
        refine lv_if_ne (tgt := 114) hx hb dX8_divide_88 (by decide) (fun c_44 => ?_) (fun c_44 => ?_)
        · skip
          rw [if_neg c_44] at hF
          rw [if_neg c_44] at hs
          exact hQ (w_43, r_this_reg) _ _ _ _ dX8_divide_114 hF.symm hP hD hS
        · skip
          rw [if_pos c_44] at hF
          rw [if_pos c_44] at hs
          refine lv_aload_n hx hb dX8_divide_91 rfl (lv_at hl 3 rfl) ?_
          refine gf_X8_16 (v := .ref a_this_reg) hx hb hown ht hK hP 0 rfl rfl dX8_divide_92 ?_
          refine lv_iload_n hx hb dX8_divide_95 rfl (lv_at hl 4 rfl) ?_
          refine lv_lload hx hb dX8_divide_96 (lv_at hl 1 rfl) ?_
          refine lv_iload_n hx hb dX8_divide_98 rfl (lv_at hl 5 rfl) ?_
          refine lv_i2l hx hb dX8_divide_99 rfl ?_
          obtain ⟨hi_45, hs⟩ := hs
          refine lv_lrem hx hb dX8_divide_100 hi_45 ?_
          refine lv_l2i hx hb dX8_divide_101 rfl ?_
          obtain ⟨hi_46, hs⟩ := hs
          refine va_iast hx hb hK hP hD hS 1 0 rfl rfl hi_46 dX8_divide_102 (fun H locs hP hD hS => ?_)
          have hP : va_P D vwCl [(a_this, oX8 a_this_bytes a_this_keys a_this_reg a_this_card a_this_filled a_this_taken a_this_line a_this_one a_this_two w_43), (a_this_reg, .inl (k_this_reg, 16, .inl (upd r_this_reg p1.toNatClampNeg ((((((r_this_reg p1.toNatClampNeg).toInt64) <<< ((32 : Int32).toInt64 &&& 63)) + (((r_this_reg (p1 + (1 : Int32)).toNatClampNeg).toInt64) + (4294967296 : Int64))) - ((((r_this_reg p1.toNatClampNeg).toInt64) <<< ((32 : Int32).toInt64 &&& 63)) + (((r_this_reg (p1 + (1 : Int32)).toNatClampNeg).toInt64) + (4294967296 : Int64))) / p2.toInt64 * p2.toInt64).toInt32))))] H := hP
          have hD : va_D A [(a_this, oX8 a_this_bytes a_this_keys a_this_reg a_this_card a_this_filled a_this_taken a_this_line a_this_one a_this_two w_43), (a_this_reg, .inl (k_this_reg, 16, .inl (upd r_this_reg p1.toNatClampNeg ((((((r_this_reg p1.toNatClampNeg).toInt64) <<< ((32 : Int32).toInt64 &&& 63)) + (((r_this_reg (p1 + (1 : Int32)).toNatClampNeg).toInt64) + (4294967296 : Int64))) - ((((r_this_reg p1.toNatClampNeg).toInt64) <<< ((32 : Int32).toInt64 &&& 63)) + (((r_this_reg (p1 + (1 : Int32)).toNatClampNeg).toInt64) + (4294967296 : Int64))) / p2.toInt64 * p2.toInt64).toInt32))))] := hD
          refine lv_aload_n hx hb dX8_divide_103 rfl (lv_at hl 3 rfl) ?_
          refine gf_X8_16 (v := .ref a_this_reg) hx hb hown ht hK hP 0 rfl rfl dX8_divide_104 ?_
          refine lv_iload_n hx hb dX8_divide_107 rfl (lv_at hl 4 rfl) ?_
          refine lv_iconst (v := 1) hx hb dX8_divide_108 (by decide) ?_
          refine lv_iadd hx hb dX8_divide_109 ?_
          refine lv_lload hx hb dX8_divide_110 (lv_at hl 0 rfl) ?_
          refine lv_l2i hx hb dX8_divide_112 rfl ?_
          have hi_47 := hs
          refine va_iast hx hb hK hP hD hS 1 0 rfl rfl hi_47 dX8_divide_113 (fun H locs hP hD hS => ?_)
          have hP : va_P D vwCl [(a_this, oX8 a_this_bytes a_this_keys a_this_reg a_this_card a_this_filled a_this_taken a_this_line a_this_one a_this_two w_43), (a_this_reg, .inl (k_this_reg, 16, .inl (upd (upd r_this_reg p1.toNatClampNeg ((((((r_this_reg p1.toNatClampNeg).toInt64) <<< ((32 : Int32).toInt64 &&& 63)) + (((r_this_reg (p1 + (1 : Int32)).toNatClampNeg).toInt64) + (4294967296 : Int64))) - ((((r_this_reg p1.toNatClampNeg).toInt64) <<< ((32 : Int32).toInt64 &&& 63)) + (((r_this_reg (p1 + (1 : Int32)).toNatClampNeg).toInt64) + (4294967296 : Int64))) / p2.toInt64 * p2.toInt64).toInt32)) (p1 + (1 : Int32)).toNatClampNeg ((((((r_this_reg p1.toNatClampNeg).toInt64) <<< ((32 : Int32).toInt64 &&& 63)) + (((r_this_reg (p1 + (1 : Int32)).toNatClampNeg).toInt64) + (4294967296 : Int64))) / p2.toInt64).toInt32))))] H := hP
          have hD : va_D A [(a_this, oX8 a_this_bytes a_this_keys a_this_reg a_this_card a_this_filled a_this_taken a_this_line a_this_one a_this_two w_43), (a_this_reg, .inl (k_this_reg, 16, .inl (upd (upd r_this_reg p1.toNatClampNeg ((((((r_this_reg p1.toNatClampNeg).toInt64) <<< ((32 : Int32).toInt64 &&& 63)) + (((r_this_reg (p1 + (1 : Int32)).toNatClampNeg).toInt64) + (4294967296 : Int64))) - ((((r_this_reg p1.toNatClampNeg).toInt64) <<< ((32 : Int32).toInt64 &&& 63)) + (((r_this_reg (p1 + (1 : Int32)).toNatClampNeg).toInt64) + (4294967296 : Int64))) / p2.toInt64 * p2.toInt64).toInt32)) (p1 + (1 : Int32)).toNatClampNeg ((((((r_this_reg p1.toNatClampNeg).toInt64) <<< ((32 : Int32).toInt64 &&& 63)) + (((r_this_reg (p1 + (1 : Int32)).toNatClampNeg).toInt64) + (4294967296 : Int64))) / p2.toInt64).toInt32))))] := hD
          exact hQ (w_43, (upd (upd r_this_reg p1.toNatClampNeg ((((((r_this_reg p1.toNatClampNeg).toInt64) <<< ((32 : Int32).toInt64 &&& 63)) + (((r_this_reg (p1 + (1 : Int32)).toNatClampNeg).toInt64) + (4294967296 : Int64))) - ((((r_this_reg p1.toNatClampNeg).toInt64) <<< ((32 : Int32).toInt64 &&& 63)) + (((r_this_reg (p1 + (1 : Int32)).toNatClampNeg).toInt64) + (4294967296 : Int64))) / p2.toInt64 * p2.toInt64).toInt32)) (p1 + (1 : Int32)).toNatClampNeg ((((((r_this_reg p1.toNatClampNeg).toInt64) <<< ((32 : Int32).toInt64 &&& 63)) + (((r_this_reg (p1 + (1 : Int32)).toNatClampNeg).toInt64) + (4294967296 : Int64))) / p2.toInt64).toInt32))) _ _ _ _ dX8_divide_114 hF.symm hP hD hS
      · skip
        rw [if_neg c_42] at hF
        rw [if_neg c_42] at hs
        refine lv_lload hx hb dX8_divide_65 (lv_at hl 0 rfl) ?_
        refine lv_ldc2 (v := (-2147483648)) hx hb hown (ht _ kj_X8_153) dX8_divide_67 ?_
        refine W.lcmp hx hb dX8_divide_70 ?_
        refine lv_if_ge (tgt := 78) hx hb dX8_divide_71 (by decide) (fun c_48 => ?_) (fun c_48 => ?_)
        · skip
          rw [if_pos c_48] at hF
          rw [if_pos c_48] at hs
          refine lv_iconst (v := 0) hx hb dX8_divide_78 (by decide) ?_
          refine lv_bipush (v := 9) hx hb dX8_divide_79 (by decide) ?_
          refine q_Vv (rest := []) (c_X8_wrong l D a_this a_this_bytes a_this_keys a_this_reg a_this_card a_this_filled a_this_taken a_this_line a_this_one a_this_two o_this false 9) cv_X8_wrong hx hb hml hown ht hN hK hA hP hD hS hl.1 (km_X8_42) ⟨Nat.le_of_ble_eq_true rfl, Nat.le_of_ble_eq_true rfl⟩ rfl rfl [0] (by decide) rfl [] rfl (fun _ => rfl) (ci := 8) rfl rfl rfl rfl rfl (Nat.le_of_ble_eq_true rfl) dX8_divide_81 ⟨Nat.zero_le _, Nat.zero_le _⟩ (fun w_49 H locs hw hP hD hS => ?_)
          have hP : va_P D vwCl [(a_this, oX8 a_this_bytes a_this_keys a_this_reg a_this_card a_this_filled a_this_taken a_this_line a_this_one a_this_two w_49), (a_this_reg, .inl (k_this_reg, 16, .inl r_this_reg))] H := hP
          have hD : va_D A [(a_this, oX8 a_this_bytes a_this_keys a_this_reg a_this_card a_this_filled a_this_taken a_this_line a_this_one a_this_two w_49), (a_this_reg, .inl (k_this_reg, 16, .inl r_this_reg))] := hD
          rw [q_let_of hw] at hF
          rw [q_let_of hw] at hs
          refine lv_aload_n hx hb dX8_divide_84 rfl (lv_at hl 3 rfl) ?_
          refine gf_X8_38 (v := .int w_49.2.2.2.2.2.2.2.2.1) hx hb hown ht hK hP 0 rfl rfl dX8_divide_85 ?_
          refine lv_if_ne (tgt := 114) hx hb dX8_divide_88 (by decide) (fun c_50 => ?_) (fun c_50 => ?_)
          · skip
            rw [if_neg c_50] at hF
            rw [if_neg c_50] at hs
            exact hQ (w_49, r_this_reg) _ _ _ _ dX8_divide_114 hF.symm hP hD hS
          · skip
            rw [if_pos c_50] at hF
            rw [if_pos c_50] at hs
            refine lv_aload_n hx hb dX8_divide_91 rfl (lv_at hl 3 rfl) ?_
            refine gf_X8_16 (v := .ref a_this_reg) hx hb hown ht hK hP 0 rfl rfl dX8_divide_92 ?_
            refine lv_iload_n hx hb dX8_divide_95 rfl (lv_at hl 4 rfl) ?_
            refine lv_lload hx hb dX8_divide_96 (lv_at hl 1 rfl) ?_
            refine lv_iload_n hx hb dX8_divide_98 rfl (lv_at hl 5 rfl) ?_
            refine lv_i2l hx hb dX8_divide_99 rfl ?_
            obtain ⟨hi_51, hs⟩ := hs
            refine lv_lrem hx hb dX8_divide_100 hi_51 ?_
            refine lv_l2i hx hb dX8_divide_101 rfl ?_
            obtain ⟨hi_52, hs⟩ := hs
            refine va_iast hx hb hK hP hD hS 1 0 rfl rfl hi_52 dX8_divide_102 (fun H locs hP hD hS => ?_)
            have hP : va_P D vwCl [(a_this, oX8 a_this_bytes a_this_keys a_this_reg a_this_card a_this_filled a_this_taken a_this_line a_this_one a_this_two w_49), (a_this_reg, .inl (k_this_reg, 16, .inl (upd r_this_reg p1.toNatClampNeg ((((((r_this_reg p1.toNatClampNeg).toInt64) <<< ((32 : Int32).toInt64 &&& 63)) + (((r_this_reg (p1 + (1 : Int32)).toNatClampNeg).toInt64) + (4294967296 : Int64))) - ((((r_this_reg p1.toNatClampNeg).toInt64) <<< ((32 : Int32).toInt64 &&& 63)) + (((r_this_reg (p1 + (1 : Int32)).toNatClampNeg).toInt64) + (4294967296 : Int64))) / p2.toInt64 * p2.toInt64).toInt32))))] H := hP
            have hD : va_D A [(a_this, oX8 a_this_bytes a_this_keys a_this_reg a_this_card a_this_filled a_this_taken a_this_line a_this_one a_this_two w_49), (a_this_reg, .inl (k_this_reg, 16, .inl (upd r_this_reg p1.toNatClampNeg ((((((r_this_reg p1.toNatClampNeg).toInt64) <<< ((32 : Int32).toInt64 &&& 63)) + (((r_this_reg (p1 + (1 : Int32)).toNatClampNeg).toInt64) + (4294967296 : Int64))) - ((((r_this_reg p1.toNatClampNeg).toInt64) <<< ((32 : Int32).toInt64 &&& 63)) + (((r_this_reg (p1 + (1 : Int32)).toNatClampNeg).toInt64) + (4294967296 : Int64))) / p2.toInt64 * p2.toInt64).toInt32))))] := hD
            refine lv_aload_n hx hb dX8_divide_103 rfl (lv_at hl 3 rfl) ?_
            refine gf_X8_16 (v := .ref a_this_reg) hx hb hown ht hK hP 0 rfl rfl dX8_divide_104 ?_
            refine lv_iload_n hx hb dX8_divide_107 rfl (lv_at hl 4 rfl) ?_
            refine lv_iconst (v := 1) hx hb dX8_divide_108 (by decide) ?_
            refine lv_iadd hx hb dX8_divide_109 ?_
            refine lv_lload hx hb dX8_divide_110 (lv_at hl 0 rfl) ?_
            refine lv_l2i hx hb dX8_divide_112 rfl ?_
            have hi_53 := hs
            refine va_iast hx hb hK hP hD hS 1 0 rfl rfl hi_53 dX8_divide_113 (fun H locs hP hD hS => ?_)
            have hP : va_P D vwCl [(a_this, oX8 a_this_bytes a_this_keys a_this_reg a_this_card a_this_filled a_this_taken a_this_line a_this_one a_this_two w_49), (a_this_reg, .inl (k_this_reg, 16, .inl (upd (upd r_this_reg p1.toNatClampNeg ((((((r_this_reg p1.toNatClampNeg).toInt64) <<< ((32 : Int32).toInt64 &&& 63)) + (((r_this_reg (p1 + (1 : Int32)).toNatClampNeg).toInt64) + (4294967296 : Int64))) - ((((r_this_reg p1.toNatClampNeg).toInt64) <<< ((32 : Int32).toInt64 &&& 63)) + (((r_this_reg (p1 + (1 : Int32)).toNatClampNeg).toInt64) + (4294967296 : Int64))) / p2.toInt64 * p2.toInt64).toInt32)) (p1 + (1 : Int32)).toNatClampNeg ((((((r_this_reg p1.toNatClampNeg).toInt64) <<< ((32 : Int32).toInt64 &&& 63)) + (((r_this_reg (p1 + (1 : Int32)).toNatClampNeg).toInt64) + (4294967296 : Int64))) / p2.toInt64).toInt32))))] H := hP
            have hD : va_D A [(a_this, oX8 a_this_bytes a_this_keys a_this_reg a_this_card a_this_filled a_this_taken a_this_line a_this_one a_this_two w_49), (a_this_reg, .inl (k_this_reg, 16, .inl (upd (upd r_this_reg p1.toNatClampNeg ((((((r_this_reg p1.toNatClampNeg).toInt64) <<< ((32 : Int32).toInt64 &&& 63)) + (((r_this_reg (p1 + (1 : Int32)).toNatClampNeg).toInt64) + (4294967296 : Int64))) - ((((r_this_reg p1.toNatClampNeg).toInt64) <<< ((32 : Int32).toInt64 &&& 63)) + (((r_this_reg (p1 + (1 : Int32)).toNatClampNeg).toInt64) + (4294967296 : Int64))) / p2.toInt64 * p2.toInt64).toInt32)) (p1 + (1 : Int32)).toNatClampNeg ((((((r_this_reg p1.toNatClampNeg).toInt64) <<< ((32 : Int32).toInt64 &&& 63)) + (((r_this_reg (p1 + (1 : Int32)).toNatClampNeg).toInt64) + (4294967296 : Int64))) / p2.toInt64).toInt32))))] := hD
            exact hQ (w_49, (upd (upd r_this_reg p1.toNatClampNeg ((((((r_this_reg p1.toNatClampNeg).toInt64) <<< ((32 : Int32).toInt64 &&& 63)) + (((r_this_reg (p1 + (1 : Int32)).toNatClampNeg).toInt64) + (4294967296 : Int64))) - ((((r_this_reg p1.toNatClampNeg).toInt64) <<< ((32 : Int32).toInt64 &&& 63)) + (((r_this_reg (p1 + (1 : Int32)).toNatClampNeg).toInt64) + (4294967296 : Int64))) / p2.toInt64 * p2.toInt64).toInt32)) (p1 + (1 : Int32)).toNatClampNeg ((((((r_this_reg p1.toNatClampNeg).toInt64) <<< ((32 : Int32).toInt64 &&& 63)) + (((r_this_reg (p1 + (1 : Int32)).toNatClampNeg).toInt64) + (4294967296 : Int64))) / p2.toInt64).toInt32))) _ _ _ _ dX8_divide_114 hF.symm hP hD hS
        · skip
          rw [if_neg c_48] at hF
          rw [if_neg c_48] at hs
          refine lv_iconst (v := 1) hx hb dX8_divide_74 (by decide) ?_
          refine lv_goto (tgt := 79) hx hb dX8_divide_75 (by decide) ?_
          refine lv_bipush (v := 9) hx hb dX8_divide_79 (by decide) ?_
          refine q_Vv (rest := []) (c_X8_wrong l D a_this a_this_bytes a_this_keys a_this_reg a_this_card a_this_filled a_this_taken a_this_line a_this_one a_this_two o_this true 9) cv_X8_wrong hx hb hml hown ht hN hK hA hP hD hS hl.1 (km_X8_42) ⟨Nat.le_of_ble_eq_true rfl, Nat.le_of_ble_eq_true rfl⟩ rfl rfl [0] (by decide) rfl [] rfl (fun _ => rfl) (ci := 8) rfl rfl rfl rfl rfl (Nat.le_of_ble_eq_true rfl) dX8_divide_81 ⟨Nat.zero_le _, Nat.zero_le _⟩ (fun w_54 H locs hw hP hD hS => ?_)
          have hP : va_P D vwCl [(a_this, oX8 a_this_bytes a_this_keys a_this_reg a_this_card a_this_filled a_this_taken a_this_line a_this_one a_this_two w_54), (a_this_reg, .inl (k_this_reg, 16, .inl r_this_reg))] H := hP
          have hD : va_D A [(a_this, oX8 a_this_bytes a_this_keys a_this_reg a_this_card a_this_filled a_this_taken a_this_line a_this_one a_this_two w_54), (a_this_reg, .inl (k_this_reg, 16, .inl r_this_reg))] := hD
          rw [q_let_of hw] at hF
          rw [q_let_of hw] at hs
          refine lv_aload_n hx hb dX8_divide_84 rfl (lv_at hl 3 rfl) ?_
          refine gf_X8_38 (v := .int w_54.2.2.2.2.2.2.2.2.1) hx hb hown ht hK hP 0 rfl rfl dX8_divide_85 ?_
          refine lv_if_ne (tgt := 114) hx hb dX8_divide_88 (by decide) (fun c_55 => ?_) (fun c_55 => ?_)
          · skip
            rw [if_neg c_55] at hF
            rw [if_neg c_55] at hs
            exact hQ (w_54, r_this_reg) _ _ _ _ dX8_divide_114 hF.symm hP hD hS
          · skip
            rw [if_pos c_55] at hF
            rw [if_pos c_55] at hs
            refine lv_aload_n hx hb dX8_divide_91 rfl (lv_at hl 3 rfl) ?_
            refine gf_X8_16 (v := .ref a_this_reg) hx hb hown ht hK hP 0 rfl rfl dX8_divide_92 ?_
            refine lv_iload_n hx hb dX8_divide_95 rfl (lv_at hl 4 rfl) ?_
            refine lv_lload hx hb dX8_divide_96 (lv_at hl 1 rfl) ?_
            refine lv_iload_n hx hb dX8_divide_98 rfl (lv_at hl 5 rfl) ?_
            refine lv_i2l hx hb dX8_divide_99 rfl ?_
            obtain ⟨hi_56, hs⟩ := hs
            refine lv_lrem hx hb dX8_divide_100 hi_56 ?_
            refine lv_l2i hx hb dX8_divide_101 rfl ?_
            obtain ⟨hi_57, hs⟩ := hs
            refine va_iast hx hb hK hP hD hS 1 0 rfl rfl hi_57 dX8_divide_102 (fun H locs hP hD hS => ?_)
            have hP : va_P D vwCl [(a_this, oX8 a_this_bytes a_this_keys a_this_reg a_this_card a_this_filled a_this_taken a_this_line a_this_one a_this_two w_54), (a_this_reg, .inl (k_this_reg, 16, .inl (upd r_this_reg p1.toNatClampNeg ((((((r_this_reg p1.toNatClampNeg).toInt64) <<< ((32 : Int32).toInt64 &&& 63)) + (((r_this_reg (p1 + (1 : Int32)).toNatClampNeg).toInt64) + (4294967296 : Int64))) - ((((r_this_reg p1.toNatClampNeg).toInt64) <<< ((32 : Int32).toInt64 &&& 63)) + (((r_this_reg (p1 + (1 : Int32)).toNatClampNeg).toInt64) + (4294967296 : Int64))) / p2.toInt64 * p2.toInt64).toInt32))))] H := hP
            have hD : va_D A [(a_this, oX8 a_this_bytes a_this_keys a_this_reg a_this_card a_this_filled a_this_taken a_this_line a_this_one a_this_two w_54), (a_this_reg, .inl (k_this_reg, 16, .inl (upd r_this_reg p1.toNatClampNeg ((((((r_this_reg p1.toNatClampNeg).toInt64) <<< ((32 : Int32).toInt64 &&& 63)) + (((r_this_reg (p1 + (1 : Int32)).toNatClampNeg).toInt64) + (4294967296 : Int64))) - ((((r_this_reg p1.toNatClampNeg).toInt64) <<< ((32 : Int32).toInt64 &&& 63)) + (((r_this_reg (p1 + (1 : Int32)).toNatClampNeg).toInt64) + (4294967296 : Int64))) / p2.toInt64 * p2.toInt64).toInt32))))] := hD
            refine lv_aload_n hx hb dX8_divide_103 rfl (lv_at hl 3 rfl) ?_
            refine gf_X8_16 (v := .ref a_this_reg) hx hb hown ht hK hP 0 rfl rfl dX8_divide_104 ?_
            refine lv_iload_n hx hb dX8_divide_107 rfl (lv_at hl 4 rfl) ?_
            refine lv_iconst (v := 1) hx hb dX8_divide_108 (by decide) ?_
            refine lv_iadd hx hb dX8_divide_109 ?_
            refine lv_lload hx hb dX8_divide_110 (lv_at hl 0 rfl) ?_
            refine lv_l2i hx hb dX8_divide_112 rfl ?_
            have hi_58 := hs
            refine va_iast hx hb hK hP hD hS 1 0 rfl rfl hi_58 dX8_divide_113 (fun H locs hP hD hS => ?_)
            have hP : va_P D vwCl [(a_this, oX8 a_this_bytes a_this_keys a_this_reg a_this_card a_this_filled a_this_taken a_this_line a_this_one a_this_two w_54), (a_this_reg, .inl (k_this_reg, 16, .inl (upd (upd r_this_reg p1.toNatClampNeg ((((((r_this_reg p1.toNatClampNeg).toInt64) <<< ((32 : Int32).toInt64 &&& 63)) + (((r_this_reg (p1 + (1 : Int32)).toNatClampNeg).toInt64) + (4294967296 : Int64))) - ((((r_this_reg p1.toNatClampNeg).toInt64) <<< ((32 : Int32).toInt64 &&& 63)) + (((r_this_reg (p1 + (1 : Int32)).toNatClampNeg).toInt64) + (4294967296 : Int64))) / p2.toInt64 * p2.toInt64).toInt32)) (p1 + (1 : Int32)).toNatClampNeg ((((((r_this_reg p1.toNatClampNeg).toInt64) <<< ((32 : Int32).toInt64 &&& 63)) + (((r_this_reg (p1 + (1 : Int32)).toNatClampNeg).toInt64) + (4294967296 : Int64))) / p2.toInt64).toInt32))))] H := hP
            have hD : va_D A [(a_this, oX8 a_this_bytes a_this_keys a_this_reg a_this_card a_this_filled a_this_taken a_this_line a_this_one a_this_two w_54), (a_this_reg, .inl (k_this_reg, 16, .inl (upd (upd r_this_reg p1.toNatClampNeg ((((((r_this_reg p1.toNatClampNeg).toInt64) <<< ((32 : Int32).toInt64 &&& 63)) + (((r_this_reg (p1 + (1 : Int32)).toNatClampNeg).toInt64) + (4294967296 : Int64))) - ((((r_this_reg p1.toNatClampNeg).toInt64) <<< ((32 : Int32).toInt64 &&& 63)) + (((r_this_reg (p1 + (1 : Int32)).toNatClampNeg).toInt64) + (4294967296 : Int64))) / p2.toInt64 * p2.toInt64).toInt32)) (p1 + (1 : Int32)).toNatClampNeg ((((((r_this_reg p1.toNatClampNeg).toInt64) <<< ((32 : Int32).toInt64 &&& 63)) + (((r_this_reg (p1 + (1 : Int32)).toNatClampNeg).toInt64) + (4294967296 : Int64))) / p2.toInt64).toInt32))))] := hD
            exact hQ (w_54, (upd (upd r_this_reg p1.toNatClampNeg ((((((r_this_reg p1.toNatClampNeg).toInt64) <<< ((32 : Int32).toInt64 &&& 63)) + (((r_this_reg (p1 + (1 : Int32)).toNatClampNeg).toInt64) + (4294967296 : Int64))) - ((((r_this_reg p1.toNatClampNeg).toInt64) <<< ((32 : Int32).toInt64 &&& 63)) + (((r_this_reg (p1 + (1 : Int32)).toNatClampNeg).toInt64) + (4294967296 : Int64))) / p2.toInt64 * p2.toInt64).toInt32)) (p1 + (1 : Int32)).toNatClampNeg ((((((r_this_reg p1.toNatClampNeg).toInt64) <<< ((32 : Int32).toInt64 &&& 63)) + (((r_this_reg (p1 + (1 : Int32)).toNatClampNeg).toInt64) + (4294967296 : Int64))) / p2.toInt64).toInt32))) _ _ _ _ dX8_divide_114 hF.symm hP hD hS
    · skip
      rw [if_pos c_40] at hF
      rw [if_pos c_40] at hs
      refine lv_ldc2 (v := 4294967296) hx hb hown (ht _ kj_X8_149) dX8_divide_42 ?_
      refine lv_goto (tgt := 53) hx hb dX8_divide_45 (by decide) ?_
      refine lv_lstore (lv' := [(7, .long 4294967296), (5, .long ((((r_this_reg p1.toNatClampNeg).toInt64) <<< ((32 : Int32).toInt64 &&& 63)) + (((r_this_reg (p1 + (1 : Int32)).toNatClampNeg).toInt64) + (4294967296 : Int64)))), (3, .long ((r_this_reg (p1 + (1 : Int32)).toNatClampNeg).toInt64)), (0, .ref a_this), (1, .int p1), (2, .int p2)]) hx hb dX8_divide_53 hl (by decide) rfl (fun ls hl => ?_)
      refine lv_aload_n hx hb dX8_divide_55 rfl (lv_at hl 3 rfl) ?_
      refine lv_lload hx hb dX8_divide_56 (lv_at hl 0 rfl) ?_
      refine lv_ldc2 (v := 2147483647) hx hb hown (ht _ kj_X8_151) dX8_divide_58 ?_
      refine W.lcmp hx hb dX8_divide_61 ?_
      refine lv_if_gt (tgt := 74) hx hb dX8_divide_62 (by decide) (fun c_59 => ?_) (fun c_59 => ?_)
      · skip
        rw [if_pos c_59] at hF
        rw [if_pos c_59] at hs
        refine lv_iconst (v := 1) hx hb dX8_divide_74 (by decide) ?_
        refine lv_goto (tgt := 79) hx hb dX8_divide_75 (by decide) ?_
        refine lv_bipush (v := 9) hx hb dX8_divide_79 (by decide) ?_
        refine q_Vv (rest := []) (c_X8_wrong l D a_this a_this_bytes a_this_keys a_this_reg a_this_card a_this_filled a_this_taken a_this_line a_this_one a_this_two o_this true 9) cv_X8_wrong hx hb hml hown ht hN hK hA hP hD hS hl.1 (km_X8_42) ⟨Nat.le_of_ble_eq_true rfl, Nat.le_of_ble_eq_true rfl⟩ rfl rfl [0] (by decide) rfl [] rfl (fun _ => rfl) (ci := 8) rfl rfl rfl rfl rfl (Nat.le_of_ble_eq_true rfl) dX8_divide_81 ⟨Nat.zero_le _, Nat.zero_le _⟩ (fun w_60 H locs hw hP hD hS => ?_)
        have hP : va_P D vwCl [(a_this, oX8 a_this_bytes a_this_keys a_this_reg a_this_card a_this_filled a_this_taken a_this_line a_this_one a_this_two w_60), (a_this_reg, .inl (k_this_reg, 16, .inl r_this_reg))] H := hP
        have hD : va_D A [(a_this, oX8 a_this_bytes a_this_keys a_this_reg a_this_card a_this_filled a_this_taken a_this_line a_this_one a_this_two w_60), (a_this_reg, .inl (k_this_reg, 16, .inl r_this_reg))] := hD
        rw [q_let_of hw] at hF
        rw [q_let_of hw] at hs
        refine lv_aload_n hx hb dX8_divide_84 rfl (lv_at hl 3 rfl) ?_
        refine gf_X8_38 (v := .int w_60.2.2.2.2.2.2.2.2.1) hx hb hown ht hK hP 0 rfl rfl dX8_divide_85 ?_
        refine lv_if_ne (tgt := 114) hx hb dX8_divide_88 (by decide) (fun c_61 => ?_) (fun c_61 => ?_)
        · skip
          rw [if_neg c_61] at hF
          rw [if_neg c_61] at hs
          exact hQ (w_60, r_this_reg) _ _ _ _ dX8_divide_114 hF.symm hP hD hS
        · skip
          rw [if_pos c_61] at hF
          rw [if_pos c_61] at hs
          refine lv_aload_n hx hb dX8_divide_91 rfl (lv_at hl 3 rfl) ?_
          refine gf_X8_16 (v := .ref a_this_reg) hx hb hown ht hK hP 0 rfl rfl dX8_divide_92 ?_
          refine lv_iload_n hx hb dX8_divide_95 rfl (lv_at hl 4 rfl) ?_
          refine lv_lload hx hb dX8_divide_96 (lv_at hl 1 rfl) ?_
          refine lv_iload_n hx hb dX8_divide_98 rfl (lv_at hl 5 rfl) ?_
          refine lv_i2l hx hb dX8_divide_99 rfl ?_
          obtain ⟨hi_62, hs⟩ := hs
          refine lv_lrem hx hb dX8_divide_100 hi_62 ?_
          refine lv_l2i hx hb dX8_divide_101 rfl ?_
          obtain ⟨hi_63, hs⟩ := hs
          refine va_iast hx hb hK hP hD hS 1 0 rfl rfl hi_63 dX8_divide_102 (fun H locs hP hD hS => ?_)
          have hP : va_P D vwCl [(a_this, oX8 a_this_bytes a_this_keys a_this_reg a_this_card a_this_filled a_this_taken a_this_line a_this_one a_this_two w_60), (a_this_reg, .inl (k_this_reg, 16, .inl (upd r_this_reg p1.toNatClampNeg ((((((r_this_reg p1.toNatClampNeg).toInt64) <<< ((32 : Int32).toInt64 &&& 63)) + (((r_this_reg (p1 + (1 : Int32)).toNatClampNeg).toInt64) + (4294967296 : Int64))) - ((((r_this_reg p1.toNatClampNeg).toInt64) <<< ((32 : Int32).toInt64 &&& 63)) + (((r_this_reg (p1 + (1 : Int32)).toNatClampNeg).toInt64) + (4294967296 : Int64))) / p2.toInt64 * p2.toInt64).toInt32))))] H := hP
          have hD : va_D A [(a_this, oX8 a_this_bytes a_this_keys a_this_reg a_this_card a_this_filled a_this_taken a_this_line a_this_one a_this_two w_60), (a_this_reg, .inl (k_this_reg, 16, .inl (upd r_this_reg p1.toNatClampNeg ((((((r_this_reg p1.toNatClampNeg).toInt64) <<< ((32 : Int32).toInt64 &&& 63)) + (((r_this_reg (p1 + (1 : Int32)).toNatClampNeg).toInt64) + (4294967296 : Int64))) - ((((r_this_reg p1.toNatClampNeg).toInt64) <<< ((32 : Int32).toInt64 &&& 63)) + (((r_this_reg (p1 + (1 : Int32)).toNatClampNeg).toInt64) + (4294967296 : Int64))) / p2.toInt64 * p2.toInt64).toInt32))))] := hD
          refine lv_aload_n hx hb dX8_divide_103 rfl (lv_at hl 3 rfl) ?_
          refine gf_X8_16 (v := .ref a_this_reg) hx hb hown ht hK hP 0 rfl rfl dX8_divide_104 ?_
          refine lv_iload_n hx hb dX8_divide_107 rfl (lv_at hl 4 rfl) ?_
          refine lv_iconst (v := 1) hx hb dX8_divide_108 (by decide) ?_
          refine lv_iadd hx hb dX8_divide_109 ?_
          refine lv_lload hx hb dX8_divide_110 (lv_at hl 0 rfl) ?_
          refine lv_l2i hx hb dX8_divide_112 rfl ?_
          have hi_64 := hs
          refine va_iast hx hb hK hP hD hS 1 0 rfl rfl hi_64 dX8_divide_113 (fun H locs hP hD hS => ?_)
          have hP : va_P D vwCl [(a_this, oX8 a_this_bytes a_this_keys a_this_reg a_this_card a_this_filled a_this_taken a_this_line a_this_one a_this_two w_60), (a_this_reg, .inl (k_this_reg, 16, .inl (upd (upd r_this_reg p1.toNatClampNeg ((((((r_this_reg p1.toNatClampNeg).toInt64) <<< ((32 : Int32).toInt64 &&& 63)) + (((r_this_reg (p1 + (1 : Int32)).toNatClampNeg).toInt64) + (4294967296 : Int64))) - ((((r_this_reg p1.toNatClampNeg).toInt64) <<< ((32 : Int32).toInt64 &&& 63)) + (((r_this_reg (p1 + (1 : Int32)).toNatClampNeg).toInt64) + (4294967296 : Int64))) / p2.toInt64 * p2.toInt64).toInt32)) (p1 + (1 : Int32)).toNatClampNeg ((4294967296 : Int64).toInt32))))] H := hP
          have hD : va_D A [(a_this, oX8 a_this_bytes a_this_keys a_this_reg a_this_card a_this_filled a_this_taken a_this_line a_this_one a_this_two w_60), (a_this_reg, .inl (k_this_reg, 16, .inl (upd (upd r_this_reg p1.toNatClampNeg ((((((r_this_reg p1.toNatClampNeg).toInt64) <<< ((32 : Int32).toInt64 &&& 63)) + (((r_this_reg (p1 + (1 : Int32)).toNatClampNeg).toInt64) + (4294967296 : Int64))) - ((((r_this_reg p1.toNatClampNeg).toInt64) <<< ((32 : Int32).toInt64 &&& 63)) + (((r_this_reg (p1 + (1 : Int32)).toNatClampNeg).toInt64) + (4294967296 : Int64))) / p2.toInt64 * p2.toInt64).toInt32)) (p1 + (1 : Int32)).toNatClampNeg ((4294967296 : Int64).toInt32))))] := hD
          exact hQ (w_60, (upd (upd r_this_reg p1.toNatClampNeg ((((((r_this_reg p1.toNatClampNeg).toInt64) <<< ((32 : Int32).toInt64 &&& 63)) + (((r_this_reg (p1 + (1 : Int32)).toNatClampNeg).toInt64) + (4294967296 : Int64))) - ((((r_this_reg p1.toNatClampNeg).toInt64) <<< ((32 : Int32).toInt64 &&& 63)) + (((r_this_reg (p1 + (1 : Int32)).toNatClampNeg).toInt64) + (4294967296 : Int64))) / p2.toInt64 * p2.toInt64).toInt32)) (p1 + (1 : Int32)).toNatClampNeg ((4294967296 : Int64).toInt32))) _ _ _ _ dX8_divide_114 hF.symm hP hD hS
      · skip
        rw [if_neg c_59] at hF
        rw [if_neg c_59] at hs
        refine lv_lload hx hb dX8_divide_65 (lv_at hl 0 rfl) ?_
        refine lv_ldc2 (v := (-2147483648)) hx hb hown (ht _ kj_X8_153) dX8_divide_67 ?_
        refine W.lcmp hx hb dX8_divide_70 ?_
        refine lv_if_ge (tgt := 78) hx hb dX8_divide_71 (by decide) (fun c_65 => ?_) (fun c_65 => ?_)
        · skip
          rw [if_pos c_65] at hF
          rw [if_pos c_65] at hs
          refine lv_iconst (v := 0) hx hb dX8_divide_78 (by decide) ?_
          refine lv_bipush (v := 9) hx hb dX8_divide_79 (by decide) ?_
          refine q_Vv (rest := []) (c_X8_wrong l D a_this a_this_bytes a_this_keys a_this_reg a_this_card a_this_filled a_this_taken a_this_line a_this_one a_this_two o_this false 9) cv_X8_wrong hx hb hml hown ht hN hK hA hP hD hS hl.1 (km_X8_42) ⟨Nat.le_of_ble_eq_true rfl, Nat.le_of_ble_eq_true rfl⟩ rfl rfl [0] (by decide) rfl [] rfl (fun _ => rfl) (ci := 8) rfl rfl rfl rfl rfl (Nat.le_of_ble_eq_true rfl) dX8_divide_81 ⟨Nat.zero_le _, Nat.zero_le _⟩ (fun w_66 H locs hw hP hD hS => ?_)
          have hP : va_P D vwCl [(a_this, oX8 a_this_bytes a_this_keys a_this_reg a_this_card a_this_filled a_this_taken a_this_line a_this_one a_this_two w_66), (a_this_reg, .inl (k_this_reg, 16, .inl r_this_reg))] H := hP
          have hD : va_D A [(a_this, oX8 a_this_bytes a_this_keys a_this_reg a_this_card a_this_filled a_this_taken a_this_line a_this_one a_this_two w_66), (a_this_reg, .inl (k_this_reg, 16, .inl r_this_reg))] := hD
          rw [q_let_of hw] at hF
          rw [q_let_of hw] at hs
          refine lv_aload_n hx hb dX8_divide_84 rfl (lv_at hl 3 rfl) ?_
          refine gf_X8_38 (v := .int w_66.2.2.2.2.2.2.2.2.1) hx hb hown ht hK hP 0 rfl rfl dX8_divide_85 ?_
          refine lv_if_ne (tgt := 114) hx hb dX8_divide_88 (by decide) (fun c_67 => ?_) (fun c_67 => ?_)
          · skip
            rw [if_neg c_67] at hF
            rw [if_neg c_67] at hs
            exact hQ (w_66, r_this_reg) _ _ _ _ dX8_divide_114 hF.symm hP hD hS
          · skip
            rw [if_pos c_67] at hF
            rw [if_pos c_67] at hs
            refine lv_aload_n hx hb dX8_divide_91 rfl (lv_at hl 3 rfl) ?_
            refine gf_X8_16 (v := .ref a_this_reg) hx hb hown ht hK hP 0 rfl rfl dX8_divide_92 ?_
            refine lv_iload_n hx hb dX8_divide_95 rfl (lv_at hl 4 rfl) ?_
            refine lv_lload hx hb dX8_divide_96 (lv_at hl 1 rfl) ?_
            refine lv_iload_n hx hb dX8_divide_98 rfl (lv_at hl 5 rfl) ?_
            refine lv_i2l hx hb dX8_divide_99 rfl ?_
            obtain ⟨hi_68, hs⟩ := hs
            refine lv_lrem hx hb dX8_divide_100 hi_68 ?_
            refine lv_l2i hx hb dX8_divide_101 rfl ?_
            obtain ⟨hi_69, hs⟩ := hs
            refine va_iast hx hb hK hP hD hS 1 0 rfl rfl hi_69 dX8_divide_102 (fun H locs hP hD hS => ?_)
            have hP : va_P D vwCl [(a_this, oX8 a_this_bytes a_this_keys a_this_reg a_this_card a_this_filled a_this_taken a_this_line a_this_one a_this_two w_66), (a_this_reg, .inl (k_this_reg, 16, .inl (upd r_this_reg p1.toNatClampNeg ((((((r_this_reg p1.toNatClampNeg).toInt64) <<< ((32 : Int32).toInt64 &&& 63)) + (((r_this_reg (p1 + (1 : Int32)).toNatClampNeg).toInt64) + (4294967296 : Int64))) - ((((r_this_reg p1.toNatClampNeg).toInt64) <<< ((32 : Int32).toInt64 &&& 63)) + (((r_this_reg (p1 + (1 : Int32)).toNatClampNeg).toInt64) + (4294967296 : Int64))) / p2.toInt64 * p2.toInt64).toInt32))))] H := hP
            have hD : va_D A [(a_this, oX8 a_this_bytes a_this_keys a_this_reg a_this_card a_this_filled a_this_taken a_this_line a_this_one a_this_two w_66), (a_this_reg, .inl (k_this_reg, 16, .inl (upd r_this_reg p1.toNatClampNeg ((((((r_this_reg p1.toNatClampNeg).toInt64) <<< ((32 : Int32).toInt64 &&& 63)) + (((r_this_reg (p1 + (1 : Int32)).toNatClampNeg).toInt64) + (4294967296 : Int64))) - ((((r_this_reg p1.toNatClampNeg).toInt64) <<< ((32 : Int32).toInt64 &&& 63)) + (((r_this_reg (p1 + (1 : Int32)).toNatClampNeg).toInt64) + (4294967296 : Int64))) / p2.toInt64 * p2.toInt64).toInt32))))] := hD
            refine lv_aload_n hx hb dX8_divide_103 rfl (lv_at hl 3 rfl) ?_
            refine gf_X8_16 (v := .ref a_this_reg) hx hb hown ht hK hP 0 rfl rfl dX8_divide_104 ?_
            refine lv_iload_n hx hb dX8_divide_107 rfl (lv_at hl 4 rfl) ?_
            refine lv_iconst (v := 1) hx hb dX8_divide_108 (by decide) ?_
            refine lv_iadd hx hb dX8_divide_109 ?_
            refine lv_lload hx hb dX8_divide_110 (lv_at hl 0 rfl) ?_
            refine lv_l2i hx hb dX8_divide_112 rfl ?_
            have hi_70 := hs
            refine va_iast hx hb hK hP hD hS 1 0 rfl rfl hi_70 dX8_divide_113 (fun H locs hP hD hS => ?_)
            have hP : va_P D vwCl [(a_this, oX8 a_this_bytes a_this_keys a_this_reg a_this_card a_this_filled a_this_taken a_this_line a_this_one a_this_two w_66), (a_this_reg, .inl (k_this_reg, 16, .inl (upd (upd r_this_reg p1.toNatClampNeg ((((((r_this_reg p1.toNatClampNeg).toInt64) <<< ((32 : Int32).toInt64 &&& 63)) + (((r_this_reg (p1 + (1 : Int32)).toNatClampNeg).toInt64) + (4294967296 : Int64))) - ((((r_this_reg p1.toNatClampNeg).toInt64) <<< ((32 : Int32).toInt64 &&& 63)) + (((r_this_reg (p1 + (1 : Int32)).toNatClampNeg).toInt64) + (4294967296 : Int64))) / p2.toInt64 * p2.toInt64).toInt32)) (p1 + (1 : Int32)).toNatClampNeg ((4294967296 : Int64).toInt32))))] H := hP
            have hD : va_D A [(a_this, oX8 a_this_bytes a_this_keys a_this_reg a_this_card a_this_filled a_this_taken a_this_line a_this_one a_this_two w_66), (a_this_reg, .inl (k_this_reg, 16, .inl (upd (upd r_this_reg p1.toNatClampNeg ((((((r_this_reg p1.toNatClampNeg).toInt64) <<< ((32 : Int32).toInt64 &&& 63)) + (((r_this_reg (p1 + (1 : Int32)).toNatClampNeg).toInt64) + (4294967296 : Int64))) - ((((r_this_reg p1.toNatClampNeg).toInt64) <<< ((32 : Int32).toInt64 &&& 63)) + (((r_this_reg (p1 + (1 : Int32)).toNatClampNeg).toInt64) + (4294967296 : Int64))) / p2.toInt64 * p2.toInt64).toInt32)) (p1 + (1 : Int32)).toNatClampNeg ((4294967296 : Int64).toInt32))))] := hD
            exact hQ (w_66, (upd (upd r_this_reg p1.toNatClampNeg ((((((r_this_reg p1.toNatClampNeg).toInt64) <<< ((32 : Int32).toInt64 &&& 63)) + (((r_this_reg (p1 + (1 : Int32)).toNatClampNeg).toInt64) + (4294967296 : Int64))) - ((((r_this_reg p1.toNatClampNeg).toInt64) <<< ((32 : Int32).toInt64 &&& 63)) + (((r_this_reg (p1 + (1 : Int32)).toNatClampNeg).toInt64) + (4294967296 : Int64))) / p2.toInt64 * p2.toInt64).toInt32)) (p1 + (1 : Int32)).toNatClampNeg ((4294967296 : Int64).toInt32))) _ _ _ _ dX8_divide_114 hF.symm hP hD hS
        · skip
          rw [if_neg c_65] at hF
          rw [if_neg c_65] at hs
          refine lv_iconst (v := 1) hx hb dX8_divide_74 (by decide) ?_
          refine lv_goto (tgt := 79) hx hb dX8_divide_75 (by decide) ?_
          refine lv_bipush (v := 9) hx hb dX8_divide_79 (by decide) ?_
          refine q_Vv (rest := []) (c_X8_wrong l D a_this a_this_bytes a_this_keys a_this_reg a_this_card a_this_filled a_this_taken a_this_line a_this_one a_this_two o_this true 9) cv_X8_wrong hx hb hml hown ht hN hK hA hP hD hS hl.1 (km_X8_42) ⟨Nat.le_of_ble_eq_true rfl, Nat.le_of_ble_eq_true rfl⟩ rfl rfl [0] (by decide) rfl [] rfl (fun _ => rfl) (ci := 8) rfl rfl rfl rfl rfl (Nat.le_of_ble_eq_true rfl) dX8_divide_81 ⟨Nat.zero_le _, Nat.zero_le _⟩ (fun w_71 H locs hw hP hD hS => ?_)
          have hP : va_P D vwCl [(a_this, oX8 a_this_bytes a_this_keys a_this_reg a_this_card a_this_filled a_this_taken a_this_line a_this_one a_this_two w_71), (a_this_reg, .inl (k_this_reg, 16, .inl r_this_reg))] H := hP
          have hD : va_D A [(a_this, oX8 a_this_bytes a_this_keys a_this_reg a_this_card a_this_filled a_this_taken a_this_line a_this_one a_this_two w_71), (a_this_reg, .inl (k_this_reg, 16, .inl r_this_reg))] := hD
          rw [q_let_of hw] at hF
          rw [q_let_of hw] at hs
          refine lv_aload_n hx hb dX8_divide_84 rfl (lv_at hl 3 rfl) ?_
          refine gf_X8_38 (v := .int w_71.2.2.2.2.2.2.2.2.1) hx hb hown ht hK hP 0 rfl rfl dX8_divide_85 ?_
          refine lv_if_ne (tgt := 114) hx hb dX8_divide_88 (by decide) (fun c_72 => ?_) (fun c_72 => ?_)
          · skip
            rw [if_neg c_72] at hF
            rw [if_neg c_72] at hs
            exact hQ (w_71, r_this_reg) _ _ _ _ dX8_divide_114 hF.symm hP hD hS
          · skip
            rw [if_pos c_72] at hF
            rw [if_pos c_72] at hs
            refine lv_aload_n hx hb dX8_divide_91 rfl (lv_at hl 3 rfl) ?_
            refine gf_X8_16 (v := .ref a_this_reg) hx hb hown ht hK hP 0 rfl rfl dX8_divide_92 ?_
            refine lv_iload_n hx hb dX8_divide_95 rfl (lv_at hl 4 rfl) ?_
            refine lv_lload hx hb dX8_divide_96 (lv_at hl 1 rfl) ?_
            refine lv_iload_n hx hb dX8_divide_98 rfl (lv_at hl 5 rfl) ?_
            refine lv_i2l hx hb dX8_divide_99 rfl ?_
            obtain ⟨hi_73, hs⟩ := hs
            refine lv_lrem hx hb dX8_divide_100 hi_73 ?_
            refine lv_l2i hx hb dX8_divide_101 rfl ?_
            obtain ⟨hi_74, hs⟩ := hs
            refine va_iast hx hb hK hP hD hS 1 0 rfl rfl hi_74 dX8_divide_102 (fun H locs hP hD hS => ?_)
            have hP : va_P D vwCl [(a_this, oX8 a_this_bytes a_this_keys a_this_reg a_this_card a_this_filled a_this_taken a_this_line a_this_one a_this_two w_71), (a_this_reg, .inl (k_this_reg, 16, .inl (upd r_this_reg p1.toNatClampNeg ((((((r_this_reg p1.toNatClampNeg).toInt64) <<< ((32 : Int32).toInt64 &&& 63)) + (((r_this_reg (p1 + (1 : Int32)).toNatClampNeg).toInt64) + (4294967296 : Int64))) - ((((r_this_reg p1.toNatClampNeg).toInt64) <<< ((32 : Int32).toInt64 &&& 63)) + (((r_this_reg (p1 + (1 : Int32)).toNatClampNeg).toInt64) + (4294967296 : Int64))) / p2.toInt64 * p2.toInt64).toInt32))))] H := hP
            have hD : va_D A [(a_this, oX8 a_this_bytes a_this_keys a_this_reg a_this_card a_this_filled a_this_taken a_this_line a_this_one a_this_two w_71), (a_this_reg, .inl (k_this_reg, 16, .inl (upd r_this_reg p1.toNatClampNeg ((((((r_this_reg p1.toNatClampNeg).toInt64) <<< ((32 : Int32).toInt64 &&& 63)) + (((r_this_reg (p1 + (1 : Int32)).toNatClampNeg).toInt64) + (4294967296 : Int64))) - ((((r_this_reg p1.toNatClampNeg).toInt64) <<< ((32 : Int32).toInt64 &&& 63)) + (((r_this_reg (p1 + (1 : Int32)).toNatClampNeg).toInt64) + (4294967296 : Int64))) / p2.toInt64 * p2.toInt64).toInt32))))] := hD
            refine lv_aload_n hx hb dX8_divide_103 rfl (lv_at hl 3 rfl) ?_
            refine gf_X8_16 (v := .ref a_this_reg) hx hb hown ht hK hP 0 rfl rfl dX8_divide_104 ?_
            refine lv_iload_n hx hb dX8_divide_107 rfl (lv_at hl 4 rfl) ?_
            refine lv_iconst (v := 1) hx hb dX8_divide_108 (by decide) ?_
            refine lv_iadd hx hb dX8_divide_109 ?_
            refine lv_lload hx hb dX8_divide_110 (lv_at hl 0 rfl) ?_
            refine lv_l2i hx hb dX8_divide_112 rfl ?_
            have hi_75 := hs
            refine va_iast hx hb hK hP hD hS 1 0 rfl rfl hi_75 dX8_divide_113 (fun H locs hP hD hS => ?_)
            have hP : va_P D vwCl [(a_this, oX8 a_this_bytes a_this_keys a_this_reg a_this_card a_this_filled a_this_taken a_this_line a_this_one a_this_two w_71), (a_this_reg, .inl (k_this_reg, 16, .inl (upd (upd r_this_reg p1.toNatClampNeg ((((((r_this_reg p1.toNatClampNeg).toInt64) <<< ((32 : Int32).toInt64 &&& 63)) + (((r_this_reg (p1 + (1 : Int32)).toNatClampNeg).toInt64) + (4294967296 : Int64))) - ((((r_this_reg p1.toNatClampNeg).toInt64) <<< ((32 : Int32).toInt64 &&& 63)) + (((r_this_reg (p1 + (1 : Int32)).toNatClampNeg).toInt64) + (4294967296 : Int64))) / p2.toInt64 * p2.toInt64).toInt32)) (p1 + (1 : Int32)).toNatClampNeg ((4294967296 : Int64).toInt32))))] H := hP
            have hD : va_D A [(a_this, oX8 a_this_bytes a_this_keys a_this_reg a_this_card a_this_filled a_this_taken a_this_line a_this_one a_this_two w_71), (a_this_reg, .inl (k_this_reg, 16, .inl (upd (upd r_this_reg p1.toNatClampNeg ((((((r_this_reg p1.toNatClampNeg).toInt64) <<< ((32 : Int32).toInt64 &&& 63)) + (((r_this_reg (p1 + (1 : Int32)).toNatClampNeg).toInt64) + (4294967296 : Int64))) - ((((r_this_reg p1.toNatClampNeg).toInt64) <<< ((32 : Int32).toInt64 &&& 63)) + (((r_this_reg (p1 + (1 : Int32)).toNatClampNeg).toInt64) + (4294967296 : Int64))) / p2.toInt64 * p2.toInt64).toInt32)) (p1 + (1 : Int32)).toNatClampNeg ((4294967296 : Int64).toInt32))))] := hD
            exact hQ (w_71, (upd (upd r_this_reg p1.toNatClampNeg ((((((r_this_reg p1.toNatClampNeg).toInt64) <<< ((32 : Int32).toInt64 &&& 63)) + (((r_this_reg (p1 + (1 : Int32)).toNatClampNeg).toInt64) + (4294967296 : Int64))) - ((((r_this_reg p1.toNatClampNeg).toInt64) <<< ((32 : Int32).toInt64 &&& 63)) + (((r_this_reg (p1 + (1 : Int32)).toNatClampNeg).toInt64) + (4294967296 : Int64))) / p2.toInt64 * p2.toInt64).toInt32)) (p1 + (1 : Int32)).toNatClampNeg ((4294967296 : Int64).toInt32))) _ _ _ _ dX8_divide_114 hF.symm hP hD hS
theorem cv_X8_divide : qV yX8_divide cX8_divide 9 none 2 := ⟨kc_X8_divide, kt_X8_divide, ks_X8_divide, kn_X8, by decide, by decide +kernel⟩
def f_X8_doRegisters (o_this : Int32 × Int32 × Int32 × Int32 × Bool × Bool × Int32 × Int32 × Int32 × Int32 × Bool × Bool × Bool × Int32 × Int32 × Int32 × Int32 × Int32 × Int32 × Int32 × Int32 × Int32 × Int32 × Int32 × Int32) (r_this_bytes : Nat → Int32) (r_this_keys : Nat → Int32) (r_this_reg : Nat → Int32) (p1 : Int32) (p2 : Int32) (p3 : Int32) : (Int32 × Int32 × Int32 × Int32 × Bool × Bool × Int32 × Int32 × Int32 × Int32 × Bool × Bool × Bool × Int32 × Int32 × Int32 × Int32 × Int32 × Int32 × Int32 × Int32 × Int32 × Int32 × Int32 × Int32) × (Nat → Int32) × (Nat → Int32) × (Nat → Int32) := (if p1 = (28 : Int32) then (if (p2 - p2 / (2 : Int32) * (2 : Int32)) = (1 : Int32) then (q_let (f_X8_wrong o_this true 6) fun w_45 => (if w_45.2.2.2.2.2.2.2.2.1 ≤ 0 then (if (16 : Int32) ≤ p1 then (if (24 : Int32) ≤ p1 then (if p1 = (24 : Int32) then (w_45, r_this_bytes, r_this_keys, (upd r_this_reg p2.toNatClampNeg (r_this_reg p3.toNatClampNeg))) else (if p1 = (25 : Int32) then (q_let (f_X8_compared w_45 (r_this_reg p2.toNatClampNeg) (r_this_reg p3.toNatClampNeg)) fun w_63 => (w_63, r_this_bytes, r_this_keys, r_this_reg)) else (if (28 : Int32) ≤ p1 then (if p1 = (28 : Int32) then (w_45, r_this_bytes, r_this_keys, (upd (upd r_this_reg p2.toNatClampNeg (((((r_this_reg (p2 + (1 : Int32)).toNatClampNeg).toInt64) * ((r_this_reg p3.toNatClampNeg).toInt64)) >>> ((32 : Int32).toInt64 &&& 63)).toInt32)) (p2 + (1 : Int32)).toNatClampNeg ((((r_this_reg (p2 + (1 : Int32)).toNatClampNeg).toInt64) * ((r_this_reg p3.toNatClampNeg).toInt64)).toInt32))) else (q_let (f_X8_divide w_45 r_this_reg p2 (r_this_reg p3.toNatClampNeg)) fun w_54 => (w_54.1, r_this_bytes, r_this_keys, w_54.2))) else (if p1 = (26 : Int32) then (q_let (f_X8_summed w_45 (((r_this_reg p2.toNatClampNeg).toInt64) + ((r_this_reg p3.toNatClampNeg).toInt64))) fun w_61 => (w_61.2, r_this_bytes, r_this_keys, (upd r_this_reg p2.toNatClampNeg w_61.1))) else (q_let (f_X8_summed w_45 (((r_this_reg p2.toNatClampNeg).toInt64) - ((r_this_reg p3.toNatClampNeg).toInt64))) fun w_59 => (w_59.2, r_this_bytes, r_this_keys, (upd r_this_reg p2.toNatClampNeg w_59.1))))))) else (if p1 = (18 : Int32) then (if p1 = (18 : Int32) then (q_let (f_X8_sign w_45 ((r_this_reg p3.toNatClampNeg).toInt64)) fun w_82 => (w_82, r_this_bytes, r_this_keys, (upd r_this_reg p2.toNatClampNeg (r_this_reg p3.toNatClampNeg)))) else (w_45, r_this_bytes, r_this_keys, (upd r_this_reg p2.toNatClampNeg (r_this_reg p3.toNatClampNeg)))) else (if p1 = (20 : Int32) then (q_let (f_X8_logic w_45 ((r_this_reg p2.toNatClampNeg) &&& (r_this_reg p3.toNatClampNeg))) fun w_76 => (if p1 = (18 : Int32) then (q_let (f_X8_sign w_76.2 ((r_this_reg p3.toNatClampNeg).toInt64)) fun w_79 => (w_79, r_this_bytes, r_this_keys, (upd r_this_reg p2.toNatClampNeg w_76.1))) else (w_76.2, r_this_bytes, r_this_keys, (upd r_this_reg p2.toNatClampNeg w_76.1)))) else (if p1 = (22 : Int32) then (q_let (f_X8_logic w_45 ((r_this_reg p2.toNatClampNeg) ||| (r_this_reg p3.toNatClampNeg))) fun w_72 => (if p1 = (18 : Int32) then (q_let (f_X8_sign w_72.2 ((r_this_reg p3.toNatClampNeg).toInt64)) fun w_75 => (w_75, r_this_bytes, r_this_keys, (upd r_this_reg p2.toNatClampNeg w_72.1))) else (w_72.2, r_this_bytes, r_this_keys, (upd r_this_reg p2.toNatClampNeg w_72.1)))) else (q_let (f_X8_logic w_45 ((r_this_reg p2.toNatClampNeg) ^^^ (r_this_reg p3.toNatClampNeg))) fun w_68 => (if p1 = (18 : Int32) then (q_let (f_X8_sign w_68.2 ((r_this_reg p3.toNatClampNeg).toInt64)) fun w_71 => (w_71, r_this_bytes, r_this_keys, (upd r_this_reg p2.toNatClampNeg w_68.1))) else (w_68.2, r_this_bytes, r_this_keys, (upd r_this_reg p2.toNatClampNeg w_68.1)))))))) else (q_let (f_X8_control w_45 r_this_bytes r_this_keys r_this_reg p1 p2 p3) fun w_84 => (w_84.1, w_84.2.1, w_84.2.2.1, w_84.2.2.2))) else (w_45, r_this_bytes, r_this_keys, r_this_reg))) else (q_let (f_X8_wrong o_this false 6) fun w_5 => (if w_5.2.2.2.2.2.2.2.2.1 ≤ 0 then (if (16 : Int32) ≤ p1 then (if (24 : Int32) ≤ p1 then (if p1 = (24 : Int32) then (w_5, r_this_bytes, r_this_keys, (upd r_this_reg p2.toNatClampNeg (r_this_reg p3.toNatClampNeg))) else (if p1 = (25 : Int32) then (q_let (f_X8_compared w_5 (r_this_reg p2.toNatClampNeg) (r_this_reg p3.toNatClampNeg)) fun w_23 => (w_23, r_this_bytes, r_this_keys, r_this_reg)) else (if (28 : Int32) ≤ p1 then (if p1 = (28 : Int32) then (w_5, r_this_bytes, r_this_keys, (upd (upd r_this_reg p2.toNatClampNeg (((((r_this_reg (p2 + (1 : Int32)).toNatClampNeg).toInt64) * ((r_this_reg p3.toNatClampNeg).toInt64)) >>> ((32 : Int32).toInt64 &&& 63)).toInt32)) (p2 + (1 : Int32)).toNatClampNeg ((((r_this_reg (p2 + (1 : Int32)).toNatClampNeg).toInt64) * ((r_this_reg p3.toNatClampNeg).toInt64)).toInt32))) else (q_let (f_X8_divide w_5 r_this_reg p2 (r_this_reg p3.toNatClampNeg)) fun w_14 => (w_14.1, r_this_bytes, r_this_keys, w_14.2))) else (if p1 = (26 : Int32) then (q_let (f_X8_summed w_5 (((r_this_reg p2.toNatClampNeg).toInt64) + ((r_this_reg p3.toNatClampNeg).toInt64))) fun w_21 => (w_21.2, r_this_bytes, r_this_keys, (upd r_this_reg p2.toNatClampNeg w_21.1))) else (q_let (f_X8_summed w_5 (((r_this_reg p2.toNatClampNeg).toInt64) - ((r_this_reg p3.toNatClampNeg).toInt64))) fun w_19 => (w_19.2, r_this_bytes, r_this_keys, (upd r_this_reg p2.toNatClampNeg w_19.1))))))) else (if p1 = (18 : Int32) then (if p1 = (18 : Int32) then (q_let (f_X8_sign w_5 ((r_this_reg p3.toNatClampNeg).toInt64)) fun w_42 => (w_42, r_this_bytes, r_this_keys, (upd r_this_reg p2.toNatClampNeg (r_this_reg p3.toNatClampNeg)))) else (w_5, r_this_bytes, r_this_keys, (upd r_this_reg p2.toNatClampNeg (r_this_reg p3.toNatClampNeg)))) else (if p1 = (20 : Int32) then (q_let (f_X8_logic w_5 ((r_this_reg p2.toNatClampNeg) &&& (r_this_reg p3.toNatClampNeg))) fun w_36 => (if p1 = (18 : Int32) then (q_let (f_X8_sign w_36.2 ((r_this_reg p3.toNatClampNeg).toInt64)) fun w_39 => (w_39, r_this_bytes, r_this_keys, (upd r_this_reg p2.toNatClampNeg w_36.1))) else (w_36.2, r_this_bytes, r_this_keys, (upd r_this_reg p2.toNatClampNeg w_36.1)))) else (if p1 = (22 : Int32) then (q_let (f_X8_logic w_5 ((r_this_reg p2.toNatClampNeg) ||| (r_this_reg p3.toNatClampNeg))) fun w_32 => (if p1 = (18 : Int32) then (q_let (f_X8_sign w_32.2 ((r_this_reg p3.toNatClampNeg).toInt64)) fun w_35 => (w_35, r_this_bytes, r_this_keys, (upd r_this_reg p2.toNatClampNeg w_32.1))) else (w_32.2, r_this_bytes, r_this_keys, (upd r_this_reg p2.toNatClampNeg w_32.1)))) else (q_let (f_X8_logic w_5 ((r_this_reg p2.toNatClampNeg) ^^^ (r_this_reg p3.toNatClampNeg))) fun w_28 => (if p1 = (18 : Int32) then (q_let (f_X8_sign w_28.2 ((r_this_reg p3.toNatClampNeg).toInt64)) fun w_31 => (w_31, r_this_bytes, r_this_keys, (upd r_this_reg p2.toNatClampNeg w_28.1))) else (w_28.2, r_this_bytes, r_this_keys, (upd r_this_reg p2.toNatClampNeg w_28.1)))))))) else (q_let (f_X8_control w_5 r_this_bytes r_this_keys r_this_reg p1 p2 p3) fun w_44 => (w_44.1, w_44.2.1, w_44.2.2.1, w_44.2.2.2))) else (w_5, r_this_bytes, r_this_keys, r_this_reg)))) else (if p1 = (29 : Int32) then (if (p2 - p2 / (2 : Int32) * (2 : Int32)) = (1 : Int32) then (q_let (f_X8_wrong o_this true 6) fun w_167 => (if w_167.2.2.2.2.2.2.2.2.1 ≤ 0 then (if (16 : Int32) ≤ p1 then (if (24 : Int32) ≤ p1 then (if p1 = (24 : Int32) then (w_167, r_this_bytes, r_this_keys, (upd r_this_reg p2.toNatClampNeg (r_this_reg p3.toNatClampNeg))) else (if p1 = (25 : Int32) then (q_let (f_X8_compared w_167 (r_this_reg p2.toNatClampNeg) (r_this_reg p3.toNatClampNeg)) fun w_185 => (w_185, r_this_bytes, r_this_keys, r_this_reg)) else (if (28 : Int32) ≤ p1 then (if p1 = (28 : Int32) then (w_167, r_this_bytes, r_this_keys, (upd (upd r_this_reg p2.toNatClampNeg (((((r_this_reg (p2 + (1 : Int32)).toNatClampNeg).toInt64) * ((r_this_reg p3.toNatClampNeg).toInt64)) >>> ((32 : Int32).toInt64 &&& 63)).toInt32)) (p2 + (1 : Int32)).toNatClampNeg ((((r_this_reg (p2 + (1 : Int32)).toNatClampNeg).toInt64) * ((r_this_reg p3.toNatClampNeg).toInt64)).toInt32))) else (q_let (f_X8_divide w_167 r_this_reg p2 (r_this_reg p3.toNatClampNeg)) fun w_176 => (w_176.1, r_this_bytes, r_this_keys, w_176.2))) else (if p1 = (26 : Int32) then (q_let (f_X8_summed w_167 (((r_this_reg p2.toNatClampNeg).toInt64) + ((r_this_reg p3.toNatClampNeg).toInt64))) fun w_183 => (w_183.2, r_this_bytes, r_this_keys, (upd r_this_reg p2.toNatClampNeg w_183.1))) else (q_let (f_X8_summed w_167 (((r_this_reg p2.toNatClampNeg).toInt64) - ((r_this_reg p3.toNatClampNeg).toInt64))) fun w_181 => (w_181.2, r_this_bytes, r_this_keys, (upd r_this_reg p2.toNatClampNeg w_181.1))))))) else (if p1 = (18 : Int32) then (if p1 = (18 : Int32) then (q_let (f_X8_sign w_167 ((r_this_reg p3.toNatClampNeg).toInt64)) fun w_204 => (w_204, r_this_bytes, r_this_keys, (upd r_this_reg p2.toNatClampNeg (r_this_reg p3.toNatClampNeg)))) else (w_167, r_this_bytes, r_this_keys, (upd r_this_reg p2.toNatClampNeg (r_this_reg p3.toNatClampNeg)))) else (if p1 = (20 : Int32) then (q_let (f_X8_logic w_167 ((r_this_reg p2.toNatClampNeg) &&& (r_this_reg p3.toNatClampNeg))) fun w_198 => (if p1 = (18 : Int32) then (q_let (f_X8_sign w_198.2 ((r_this_reg p3.toNatClampNeg).toInt64)) fun w_201 => (w_201, r_this_bytes, r_this_keys, (upd r_this_reg p2.toNatClampNeg w_198.1))) else (w_198.2, r_this_bytes, r_this_keys, (upd r_this_reg p2.toNatClampNeg w_198.1)))) else (if p1 = (22 : Int32) then (q_let (f_X8_logic w_167 ((r_this_reg p2.toNatClampNeg) ||| (r_this_reg p3.toNatClampNeg))) fun w_194 => (if p1 = (18 : Int32) then (q_let (f_X8_sign w_194.2 ((r_this_reg p3.toNatClampNeg).toInt64)) fun w_197 => (w_197, r_this_bytes, r_this_keys, (upd r_this_reg p2.toNatClampNeg w_194.1))) else (w_194.2, r_this_bytes, r_this_keys, (upd r_this_reg p2.toNatClampNeg w_194.1)))) else (q_let (f_X8_logic w_167 ((r_this_reg p2.toNatClampNeg) ^^^ (r_this_reg p3.toNatClampNeg))) fun w_190 => (if p1 = (18 : Int32) then (q_let (f_X8_sign w_190.2 ((r_this_reg p3.toNatClampNeg).toInt64)) fun w_193 => (w_193, r_this_bytes, r_this_keys, (upd r_this_reg p2.toNatClampNeg w_190.1))) else (w_190.2, r_this_bytes, r_this_keys, (upd r_this_reg p2.toNatClampNeg w_190.1)))))))) else (q_let (f_X8_control w_167 r_this_bytes r_this_keys r_this_reg p1 p2 p3) fun w_206 => (w_206.1, w_206.2.1, w_206.2.2.1, w_206.2.2.2))) else (w_167, r_this_bytes, r_this_keys, r_this_reg))) else (q_let (f_X8_wrong o_this false 6) fun w_127 => (if w_127.2.2.2.2.2.2.2.2.1 ≤ 0 then (if (16 : Int32) ≤ p1 then (if (24 : Int32) ≤ p1 then (if p1 = (24 : Int32) then (w_127, r_this_bytes, r_this_keys, (upd r_this_reg p2.toNatClampNeg (r_this_reg p3.toNatClampNeg))) else (if p1 = (25 : Int32) then (q_let (f_X8_compared w_127 (r_this_reg p2.toNatClampNeg) (r_this_reg p3.toNatClampNeg)) fun w_145 => (w_145, r_this_bytes, r_this_keys, r_this_reg)) else (if (28 : Int32) ≤ p1 then (if p1 = (28 : Int32) then (w_127, r_this_bytes, r_this_keys, (upd (upd r_this_reg p2.toNatClampNeg (((((r_this_reg (p2 + (1 : Int32)).toNatClampNeg).toInt64) * ((r_this_reg p3.toNatClampNeg).toInt64)) >>> ((32 : Int32).toInt64 &&& 63)).toInt32)) (p2 + (1 : Int32)).toNatClampNeg ((((r_this_reg (p2 + (1 : Int32)).toNatClampNeg).toInt64) * ((r_this_reg p3.toNatClampNeg).toInt64)).toInt32))) else (q_let (f_X8_divide w_127 r_this_reg p2 (r_this_reg p3.toNatClampNeg)) fun w_136 => (w_136.1, r_this_bytes, r_this_keys, w_136.2))) else (if p1 = (26 : Int32) then (q_let (f_X8_summed w_127 (((r_this_reg p2.toNatClampNeg).toInt64) + ((r_this_reg p3.toNatClampNeg).toInt64))) fun w_143 => (w_143.2, r_this_bytes, r_this_keys, (upd r_this_reg p2.toNatClampNeg w_143.1))) else (q_let (f_X8_summed w_127 (((r_this_reg p2.toNatClampNeg).toInt64) - ((r_this_reg p3.toNatClampNeg).toInt64))) fun w_141 => (w_141.2, r_this_bytes, r_this_keys, (upd r_this_reg p2.toNatClampNeg w_141.1))))))) else (if p1 = (18 : Int32) then (if p1 = (18 : Int32) then (q_let (f_X8_sign w_127 ((r_this_reg p3.toNatClampNeg).toInt64)) fun w_164 => (w_164, r_this_bytes, r_this_keys, (upd r_this_reg p2.toNatClampNeg (r_this_reg p3.toNatClampNeg)))) else (w_127, r_this_bytes, r_this_keys, (upd r_this_reg p2.toNatClampNeg (r_this_reg p3.toNatClampNeg)))) else (if p1 = (20 : Int32) then (q_let (f_X8_logic w_127 ((r_this_reg p2.toNatClampNeg) &&& (r_this_reg p3.toNatClampNeg))) fun w_158 => (if p1 = (18 : Int32) then (q_let (f_X8_sign w_158.2 ((r_this_reg p3.toNatClampNeg).toInt64)) fun w_161 => (w_161, r_this_bytes, r_this_keys, (upd r_this_reg p2.toNatClampNeg w_158.1))) else (w_158.2, r_this_bytes, r_this_keys, (upd r_this_reg p2.toNatClampNeg w_158.1)))) else (if p1 = (22 : Int32) then (q_let (f_X8_logic w_127 ((r_this_reg p2.toNatClampNeg) ||| (r_this_reg p3.toNatClampNeg))) fun w_154 => (if p1 = (18 : Int32) then (q_let (f_X8_sign w_154.2 ((r_this_reg p3.toNatClampNeg).toInt64)) fun w_157 => (w_157, r_this_bytes, r_this_keys, (upd r_this_reg p2.toNatClampNeg w_154.1))) else (w_154.2, r_this_bytes, r_this_keys, (upd r_this_reg p2.toNatClampNeg w_154.1)))) else (q_let (f_X8_logic w_127 ((r_this_reg p2.toNatClampNeg) ^^^ (r_this_reg p3.toNatClampNeg))) fun w_150 => (if p1 = (18 : Int32) then (q_let (f_X8_sign w_150.2 ((r_this_reg p3.toNatClampNeg).toInt64)) fun w_153 => (w_153, r_this_bytes, r_this_keys, (upd r_this_reg p2.toNatClampNeg w_150.1))) else (w_150.2, r_this_bytes, r_this_keys, (upd r_this_reg p2.toNatClampNeg w_150.1)))))))) else (q_let (f_X8_control w_127 r_this_bytes r_this_keys r_this_reg p1 p2 p3) fun w_166 => (w_166.1, w_166.2.1, w_166.2.2.1, w_166.2.2.2))) else (w_127, r_this_bytes, r_this_keys, r_this_reg)))) else (q_let (f_X8_wrong o_this false 6) fun w_86 => (if w_86.2.2.2.2.2.2.2.2.1 ≤ 0 then (if (16 : Int32) ≤ p1 then (if (24 : Int32) ≤ p1 then (if p1 = (24 : Int32) then (w_86, r_this_bytes, r_this_keys, (upd r_this_reg p2.toNatClampNeg (r_this_reg p3.toNatClampNeg))) else (if p1 = (25 : Int32) then (q_let (f_X8_compared w_86 (r_this_reg p2.toNatClampNeg) (r_this_reg p3.toNatClampNeg)) fun w_104 => (w_104, r_this_bytes, r_this_keys, r_this_reg)) else (if (28 : Int32) ≤ p1 then (if p1 = (28 : Int32) then (w_86, r_this_bytes, r_this_keys, (upd (upd r_this_reg p2.toNatClampNeg (((((r_this_reg (p2 + (1 : Int32)).toNatClampNeg).toInt64) * ((r_this_reg p3.toNatClampNeg).toInt64)) >>> ((32 : Int32).toInt64 &&& 63)).toInt32)) (p2 + (1 : Int32)).toNatClampNeg ((((r_this_reg (p2 + (1 : Int32)).toNatClampNeg).toInt64) * ((r_this_reg p3.toNatClampNeg).toInt64)).toInt32))) else (q_let (f_X8_divide w_86 r_this_reg p2 (r_this_reg p3.toNatClampNeg)) fun w_95 => (w_95.1, r_this_bytes, r_this_keys, w_95.2))) else (if p1 = (26 : Int32) then (q_let (f_X8_summed w_86 (((r_this_reg p2.toNatClampNeg).toInt64) + ((r_this_reg p3.toNatClampNeg).toInt64))) fun w_102 => (w_102.2, r_this_bytes, r_this_keys, (upd r_this_reg p2.toNatClampNeg w_102.1))) else (q_let (f_X8_summed w_86 (((r_this_reg p2.toNatClampNeg).toInt64) - ((r_this_reg p3.toNatClampNeg).toInt64))) fun w_100 => (w_100.2, r_this_bytes, r_this_keys, (upd r_this_reg p2.toNatClampNeg w_100.1))))))) else (if p1 = (18 : Int32) then (if p1 = (18 : Int32) then (q_let (f_X8_sign w_86 ((r_this_reg p3.toNatClampNeg).toInt64)) fun w_123 => (w_123, r_this_bytes, r_this_keys, (upd r_this_reg p2.toNatClampNeg (r_this_reg p3.toNatClampNeg)))) else (w_86, r_this_bytes, r_this_keys, (upd r_this_reg p2.toNatClampNeg (r_this_reg p3.toNatClampNeg)))) else (if p1 = (20 : Int32) then (q_let (f_X8_logic w_86 ((r_this_reg p2.toNatClampNeg) &&& (r_this_reg p3.toNatClampNeg))) fun w_117 => (if p1 = (18 : Int32) then (q_let (f_X8_sign w_117.2 ((r_this_reg p3.toNatClampNeg).toInt64)) fun w_120 => (w_120, r_this_bytes, r_this_keys, (upd r_this_reg p2.toNatClampNeg w_117.1))) else (w_117.2, r_this_bytes, r_this_keys, (upd r_this_reg p2.toNatClampNeg w_117.1)))) else (if p1 = (22 : Int32) then (q_let (f_X8_logic w_86 ((r_this_reg p2.toNatClampNeg) ||| (r_this_reg p3.toNatClampNeg))) fun w_113 => (if p1 = (18 : Int32) then (q_let (f_X8_sign w_113.2 ((r_this_reg p3.toNatClampNeg).toInt64)) fun w_116 => (w_116, r_this_bytes, r_this_keys, (upd r_this_reg p2.toNatClampNeg w_113.1))) else (w_113.2, r_this_bytes, r_this_keys, (upd r_this_reg p2.toNatClampNeg w_113.1)))) else (q_let (f_X8_logic w_86 ((r_this_reg p2.toNatClampNeg) ^^^ (r_this_reg p3.toNatClampNeg))) fun w_109 => (if p1 = (18 : Int32) then (q_let (f_X8_sign w_109.2 ((r_this_reg p3.toNatClampNeg).toInt64)) fun w_112 => (w_112, r_this_bytes, r_this_keys, (upd r_this_reg p2.toNatClampNeg w_109.1))) else (w_109.2, r_this_bytes, r_this_keys, (upd r_this_reg p2.toNatClampNeg w_109.1)))))))) else (q_let (f_X8_control w_86 r_this_bytes r_this_keys r_this_reg p1 p2 p3) fun w_125 => (w_125.1, w_125.2.1, w_125.2.2.1, w_125.2.2.2))) else (w_86, r_this_bytes, r_this_keys, r_this_reg)))))
def s_X8_doRegisters (o_this : Int32 × Int32 × Int32 × Int32 × Bool × Bool × Int32 × Int32 × Int32 × Int32 × Bool × Bool × Bool × Int32 × Int32 × Int32 × Int32 × Int32 × Int32 × Int32 × Int32 × Int32 × Int32 × Int32 × Int32) (r_this_bytes : Nat → Int32) (r_this_reg : Nat → Int32) (p1 : Int32) (p2 : Int32) (p3 : Int32) : Prop := (vp_in p2 16 ∧ (vp_in p3 16 ∧ (if p1 = (28 : Int32) then (if (p2 - p2 / (2 : Int32) * (2 : Int32)) = (1 : Int32) then (q_let (f_X8_wrong o_this true 6) fun w_45 => (if w_45.2.2.2.2.2.2.2.2.1 ≤ 0 then (if (16 : Int32) ≤ p1 then (if (24 : Int32) ≤ p1 then (if p1 = (24 : Int32) then vp_in p2 16 else (if p1 = (25 : Int32) then True else (if (28 : Int32) ≤ p1 then (if p1 = (28 : Int32) then (vp_in (p2 + (1 : Int32)) 16 ∧ (vp_in p2 16 ∧ vp_in (p2 + (1 : Int32)) 16)) else s_X8_divide w_45 r_this_reg p2 (r_this_reg p3.toNatClampNeg)) else (if p1 = (26 : Int32) then (q_let (f_X8_summed w_45 (((r_this_reg p2.toNatClampNeg).toInt64) + ((r_this_reg p3.toNatClampNeg).toInt64))) fun w_61 => vp_in p2 16) else (q_let (f_X8_summed w_45 (((r_this_reg p2.toNatClampNeg).toInt64) - ((r_this_reg p3.toNatClampNeg).toInt64))) fun w_59 => vp_in p2 16))))) else (if p1 = (18 : Int32) then vp_in p2 16 else (if p1 = (20 : Int32) then (q_let (f_X8_logic w_45 ((r_this_reg p2.toNatClampNeg) &&& (r_this_reg p3.toNatClampNeg))) fun w_76 => vp_in p2 16) else (if p1 = (22 : Int32) then (q_let (f_X8_logic w_45 ((r_this_reg p2.toNatClampNeg) ||| (r_this_reg p3.toNatClampNeg))) fun w_72 => vp_in p2 16) else (q_let (f_X8_logic w_45 ((r_this_reg p2.toNatClampNeg) ^^^ (r_this_reg p3.toNatClampNeg))) fun w_68 => vp_in p2 16))))) else s_X8_control w_45 r_this_bytes r_this_reg p1 p2 p3) else True)) else (q_let (f_X8_wrong o_this false 6) fun w_5 => (if w_5.2.2.2.2.2.2.2.2.1 ≤ 0 then (if (16 : Int32) ≤ p1 then (if (24 : Int32) ≤ p1 then (if p1 = (24 : Int32) then vp_in p2 16 else (if p1 = (25 : Int32) then True else (if (28 : Int32) ≤ p1 then (if p1 = (28 : Int32) then (vp_in (p2 + (1 : Int32)) 16 ∧ (vp_in p2 16 ∧ vp_in (p2 + (1 : Int32)) 16)) else s_X8_divide w_5 r_this_reg p2 (r_this_reg p3.toNatClampNeg)) else (if p1 = (26 : Int32) then (q_let (f_X8_summed w_5 (((r_this_reg p2.toNatClampNeg).toInt64) + ((r_this_reg p3.toNatClampNeg).toInt64))) fun w_21 => vp_in p2 16) else (q_let (f_X8_summed w_5 (((r_this_reg p2.toNatClampNeg).toInt64) - ((r_this_reg p3.toNatClampNeg).toInt64))) fun w_19 => vp_in p2 16))))) else (if p1 = (18 : Int32) then vp_in p2 16 else (if p1 = (20 : Int32) then (q_let (f_X8_logic w_5 ((r_this_reg p2.toNatClampNeg) &&& (r_this_reg p3.toNatClampNeg))) fun w_36 => vp_in p2 16) else (if p1 = (22 : Int32) then (q_let (f_X8_logic w_5 ((r_this_reg p2.toNatClampNeg) ||| (r_this_reg p3.toNatClampNeg))) fun w_32 => vp_in p2 16) else (q_let (f_X8_logic w_5 ((r_this_reg p2.toNatClampNeg) ^^^ (r_this_reg p3.toNatClampNeg))) fun w_28 => vp_in p2 16))))) else s_X8_control w_5 r_this_bytes r_this_reg p1 p2 p3) else True))) else (if p1 = (29 : Int32) then (if (p2 - p2 / (2 : Int32) * (2 : Int32)) = (1 : Int32) then (q_let (f_X8_wrong o_this true 6) fun w_167 => (if w_167.2.2.2.2.2.2.2.2.1 ≤ 0 then (if (16 : Int32) ≤ p1 then (if (24 : Int32) ≤ p1 then (if p1 = (24 : Int32) then vp_in p2 16 else (if p1 = (25 : Int32) then True else (if (28 : Int32) ≤ p1 then (if p1 = (28 : Int32) then (vp_in (p2 + (1 : Int32)) 16 ∧ (vp_in p2 16 ∧ vp_in (p2 + (1 : Int32)) 16)) else s_X8_divide w_167 r_this_reg p2 (r_this_reg p3.toNatClampNeg)) else (if p1 = (26 : Int32) then (q_let (f_X8_summed w_167 (((r_this_reg p2.toNatClampNeg).toInt64) + ((r_this_reg p3.toNatClampNeg).toInt64))) fun w_183 => vp_in p2 16) else (q_let (f_X8_summed w_167 (((r_this_reg p2.toNatClampNeg).toInt64) - ((r_this_reg p3.toNatClampNeg).toInt64))) fun w_181 => vp_in p2 16))))) else (if p1 = (18 : Int32) then vp_in p2 16 else (if p1 = (20 : Int32) then (q_let (f_X8_logic w_167 ((r_this_reg p2.toNatClampNeg) &&& (r_this_reg p3.toNatClampNeg))) fun w_198 => vp_in p2 16) else (if p1 = (22 : Int32) then (q_let (f_X8_logic w_167 ((r_this_reg p2.toNatClampNeg) ||| (r_this_reg p3.toNatClampNeg))) fun w_194 => vp_in p2 16) else (q_let (f_X8_logic w_167 ((r_this_reg p2.toNatClampNeg) ^^^ (r_this_reg p3.toNatClampNeg))) fun w_190 => vp_in p2 16))))) else s_X8_control w_167 r_this_bytes r_this_reg p1 p2 p3) else True)) else (q_let (f_X8_wrong o_this false 6) fun w_127 => (if w_127.2.2.2.2.2.2.2.2.1 ≤ 0 then (if (16 : Int32) ≤ p1 then (if (24 : Int32) ≤ p1 then (if p1 = (24 : Int32) then vp_in p2 16 else (if p1 = (25 : Int32) then True else (if (28 : Int32) ≤ p1 then (if p1 = (28 : Int32) then (vp_in (p2 + (1 : Int32)) 16 ∧ (vp_in p2 16 ∧ vp_in (p2 + (1 : Int32)) 16)) else s_X8_divide w_127 r_this_reg p2 (r_this_reg p3.toNatClampNeg)) else (if p1 = (26 : Int32) then (q_let (f_X8_summed w_127 (((r_this_reg p2.toNatClampNeg).toInt64) + ((r_this_reg p3.toNatClampNeg).toInt64))) fun w_143 => vp_in p2 16) else (q_let (f_X8_summed w_127 (((r_this_reg p2.toNatClampNeg).toInt64) - ((r_this_reg p3.toNatClampNeg).toInt64))) fun w_141 => vp_in p2 16))))) else (if p1 = (18 : Int32) then vp_in p2 16 else (if p1 = (20 : Int32) then (q_let (f_X8_logic w_127 ((r_this_reg p2.toNatClampNeg) &&& (r_this_reg p3.toNatClampNeg))) fun w_158 => vp_in p2 16) else (if p1 = (22 : Int32) then (q_let (f_X8_logic w_127 ((r_this_reg p2.toNatClampNeg) ||| (r_this_reg p3.toNatClampNeg))) fun w_154 => vp_in p2 16) else (q_let (f_X8_logic w_127 ((r_this_reg p2.toNatClampNeg) ^^^ (r_this_reg p3.toNatClampNeg))) fun w_150 => vp_in p2 16))))) else s_X8_control w_127 r_this_bytes r_this_reg p1 p2 p3) else True))) else (q_let (f_X8_wrong o_this false 6) fun w_86 => (if w_86.2.2.2.2.2.2.2.2.1 ≤ 0 then (if (16 : Int32) ≤ p1 then (if (24 : Int32) ≤ p1 then (if p1 = (24 : Int32) then vp_in p2 16 else (if p1 = (25 : Int32) then True else (if (28 : Int32) ≤ p1 then (if p1 = (28 : Int32) then (vp_in (p2 + (1 : Int32)) 16 ∧ (vp_in p2 16 ∧ vp_in (p2 + (1 : Int32)) 16)) else s_X8_divide w_86 r_this_reg p2 (r_this_reg p3.toNatClampNeg)) else (if p1 = (26 : Int32) then (q_let (f_X8_summed w_86 (((r_this_reg p2.toNatClampNeg).toInt64) + ((r_this_reg p3.toNatClampNeg).toInt64))) fun w_102 => vp_in p2 16) else (q_let (f_X8_summed w_86 (((r_this_reg p2.toNatClampNeg).toInt64) - ((r_this_reg p3.toNatClampNeg).toInt64))) fun w_100 => vp_in p2 16))))) else (if p1 = (18 : Int32) then vp_in p2 16 else (if p1 = (20 : Int32) then (q_let (f_X8_logic w_86 ((r_this_reg p2.toNatClampNeg) &&& (r_this_reg p3.toNatClampNeg))) fun w_117 => vp_in p2 16) else (if p1 = (22 : Int32) then (q_let (f_X8_logic w_86 ((r_this_reg p2.toNatClampNeg) ||| (r_this_reg p3.toNatClampNeg))) fun w_113 => vp_in p2 16) else (q_let (f_X8_logic w_86 ((r_this_reg p2.toNatClampNeg) ^^^ (r_this_reg p3.toNatClampNeg))) fun w_109 => vp_in p2 16))))) else s_X8_control w_86 r_this_bytes r_this_reg p1 p2 p3) else True))))))
set_option linter.all false in
set_option maxHeartbeats 4000000 in
set_option maxRecDepth 100000 in
theorem c_X8_doRegisters (l : Launch) (D : va_G) (a_this a_this_bytes a_this_keys a_this_reg a_this_card a_this_filled a_this_taken a_this_line a_this_one a_this_two : Nat) (k_this_bytes k_this_keys k_this_reg : ClassId) (o_this : Int32 × Int32 × Int32 × Int32 × Bool × Bool × Int32 × Int32 × Int32 × Int32 × Bool × Bool × Bool × Int32 × Int32 × Int32 × Int32 × Int32 × Int32 × Int32 × Int32 × Int32 × Int32 × Int32 × Int32) (r_this_bytes : Nat → Int32) (r_this_keys : Nat → Int32) (r_this_reg : Nat → Int32) (p1 : Int32) (p2 : Int32) (p3 : Int32) (hs : s_X8_doRegisters o_this r_this_bytes r_this_reg p1 p2 p3) : CtV l yX8_doRegisters cX8_doRegisters 8 none { frames := 4, cells := 0, slots := 0, locals := 93 } D [.ref a_this, .int p1, .int p2, .int p3] [(a_this, oX8 a_this_bytes a_this_keys a_this_reg a_this_card a_this_filled a_this_taken a_this_line a_this_one a_this_two o_this), (a_this_bytes, .inl (k_this_bytes, 2048, .inl r_this_bytes)), (a_this_keys, .inl (k_this_keys, 8, .inl r_this_keys)), (a_this_reg, .inl (k_this_reg, 16, .inl r_this_reg))] [(k_this_bytes, .int), (k_this_keys, .int), (k_this_reg, .int)] (fun (u : (Int32 × Int32 × Int32 × Int32 × Bool × Bool × Int32 × Int32 × Int32 × Int32 × Bool × Bool × Bool × Int32 × Int32 × Int32 × Int32 × Int32 × Int32 × Int32 × Int32 × Int32 × Int32 × Int32 × Int32) × (Nat → Int32) × (Nat → Int32) × (Nat → Int32)) => f_X8_doRegisters o_this r_this_bytes r_this_keys r_this_reg p1 p2 p3 = u) (fun u => [(a_this, oX8 a_this_bytes a_this_keys a_this_reg a_this_card a_this_filled a_this_taken a_this_line a_this_one a_this_two u.1), (a_this_bytes, .inl (k_this_bytes, 2048, .inl u.2.1)), (a_this_keys, .inl (k_this_keys, 8, .inl u.2.2.1)), (a_this_reg, .inl (k_this_reg, 16, .inl u.2.2.2))]) := by
  refine CtV.of (by decide) (Nat.le_of_ble_eq_true rfl) ?_
  intro p e s m below meth c A ls Q hE hP hD hS hl hQ
  obtain ⟨hx, hb, hml, hown, ht, hN, hK, hA⟩ := hE
  have hown : s.vm.findClass RX8 = some m.cls := hown
  have hl : lv_has ls 8 [(0, .ref a_this), (1, .int p1), (2, .int p2), (3, .int p3)] := hl
  obtain ⟨F, hF⟩ : ∃ F, f_X8_doRegisters o_this r_this_bytes r_this_keys r_this_reg p1 p2 p3 = F := ⟨_, rfl⟩
  rw [hF] at hQ
  unfold f_X8_doRegisters at hF
  unfold s_X8_doRegisters at hs
  refine lv_aload_n hx hb dX8_doRegisters_0 rfl (lv_at hl 0 rfl) ?_
  refine gf_X8_16 (v := .ref a_this_reg) hx hb hown ht hK hP 0 rfl rfl dX8_doRegisters_1 ?_
  refine lv_iload_n hx hb dX8_doRegisters_4 rfl (lv_at hl 2 rfl) ?_
  obtain ⟨hi_1, hs⟩ := hs
  refine va_iald hx hb hK hP 3 2 rfl rfl hi_1 dX8_doRegisters_5 ?_
  refine lv_istore (lv' := [(4, .int (r_this_reg p2.toNatClampNeg)), (0, .ref a_this), (1, .int p1), (2, .int p2), (3, .int p3)]) hx hb dX8_doRegisters_6 hl (by decide) rfl (fun ls hl => ?_)
  refine lv_aload_n hx hb dX8_doRegisters_8 rfl (lv_at hl 1 rfl) ?_
  refine gf_X8_16 (v := .ref a_this_reg) hx hb hown ht hK hP 0 rfl rfl dX8_doRegisters_9 ?_
  refine lv_iload_n hx hb dX8_doRegisters_12 rfl (lv_at hl 4 rfl) ?_
  obtain ⟨hi_2, hs⟩ := hs
  refine va_iald hx hb hK hP 3 2 rfl rfl hi_2 dX8_doRegisters_13 ?_
  refine lv_istore (lv' := [(5, .int (r_this_reg p3.toNatClampNeg)), (4, .int (r_this_reg p2.toNatClampNeg)), (0, .ref a_this), (1, .int p1), (2, .int p2), (3, .int p3)]) hx hb dX8_doRegisters_14 hl (by decide) rfl (fun ls hl => ?_)
  refine lv_aload_n hx hb dX8_doRegisters_16 rfl (lv_at hl 2 rfl) ?_
  refine lv_iload_n hx hb dX8_doRegisters_17 rfl (lv_at hl 3 rfl) ?_
  refine lv_bipush (v := 28) hx hb dX8_doRegisters_18 (by decide) ?_
  refine lv_icmp_eq (tgt := 29) hx hb dX8_doRegisters_20 (by decide) (fun c_3 => ?_) (fun c_3 => ?_)
  · skip
    rw [if_pos c_3] at hF
    rw [if_pos c_3] at hs
    refine lv_iload_n hx hb dX8_doRegisters_29 rfl (lv_at hl 4 rfl) ?_
    refine lv_iconst (v := 2) hx hb dX8_doRegisters_30 (by decide) ?_
    refine lv_irem hx hb dX8_doRegisters_31 (by decide) ?_
    refine lv_iconst (v := 1) hx hb dX8_doRegisters_32 (by decide) ?_
    refine lv_icmp_ne (tgt := 40) hx hb dX8_doRegisters_33 (by decide) (fun c_4 => ?_) (fun c_4 => ?_)
    · skip
      rw [if_neg c_4] at hF
      rw [if_neg c_4] at hs
      refine lv_iconst (v := 0) hx hb dX8_doRegisters_40 (by decide) ?_
      refine lv_bipush (v := 6) hx hb dX8_doRegisters_41 (by decide) ?_
      refine q_Vv (rest := []) (c_X8_wrong l D a_this a_this_bytes a_this_keys a_this_reg a_this_card a_this_filled a_this_taken a_this_line a_this_one a_this_two o_this false 6) cv_X8_wrong hx hb hml hown ht hN hK hA hP hD hS hl.1 (km_X8_42) ⟨Nat.le_of_ble_eq_true rfl, Nat.le_of_ble_eq_true rfl⟩ rfl rfl [0] (by decide) rfl [] rfl (fun _ => rfl) (ci := 8) rfl rfl rfl rfl rfl (Nat.le_of_ble_eq_true rfl) dX8_doRegisters_43 ⟨Nat.zero_le _, Nat.zero_le _⟩ (fun w_5 H locs hw hP hD hS => ?_)
      have hP : va_P D vwCl [(a_this, oX8 a_this_bytes a_this_keys a_this_reg a_this_card a_this_filled a_this_taken a_this_line a_this_one a_this_two w_5), (a_this_bytes, .inl (k_this_bytes, 2048, .inl r_this_bytes)), (a_this_keys, .inl (k_this_keys, 8, .inl r_this_keys)), (a_this_reg, .inl (k_this_reg, 16, .inl r_this_reg))] H := hP
      have hD : va_D A [(a_this, oX8 a_this_bytes a_this_keys a_this_reg a_this_card a_this_filled a_this_taken a_this_line a_this_one a_this_two w_5), (a_this_bytes, .inl (k_this_bytes, 2048, .inl r_this_bytes)), (a_this_keys, .inl (k_this_keys, 8, .inl r_this_keys)), (a_this_reg, .inl (k_this_reg, 16, .inl r_this_reg))] := hD
      rw [q_let_of hw] at hF
      rw [q_let_of hw] at hs
      refine lv_aload_n hx hb dX8_doRegisters_46 rfl (lv_at hl 2 rfl) ?_
      refine gf_X8_38 (v := .int w_5.2.2.2.2.2.2.2.2.1) hx hb hown ht hK hP 0 rfl rfl dX8_doRegisters_47 ?_
      refine lv_if_le (tgt := 54) hx hb dX8_doRegisters_50 (by decide) (fun c_6 => ?_) (fun c_6 => ?_)
      · skip
        rw [if_pos c_6] at hF
        rw [if_pos c_6] at hs
        refine lv_iload_n hx hb dX8_doRegisters_54 rfl (lv_at hl 3 rfl) ?_
        refine lv_bipush (v := 16) hx hb dX8_doRegisters_55 (by decide) ?_
        refine lv_icmp_ge (tgt := 70) hx hb dX8_doRegisters_57 (by decide) (fun c_7 => ?_) (fun c_7 => ?_)
        · skip
          rw [if_pos c_7] at hF
          rw [if_pos c_7] at hs
          refine lv_iload_n hx hb dX8_doRegisters_70 rfl (lv_at hl 3 rfl) ?_
          refine lv_bipush (v := 24) hx hb dX8_doRegisters_71 (by decide) ?_
          refine lv_icmp_ge (tgt := 146) hx hb dX8_doRegisters_73 (by decide) (fun c_8 => ?_) (fun c_8 => ?_)
          · skip
            rw [if_pos c_8] at hF
            rw [if_pos c_8] at hs
            refine lv_iload_n hx hb dX8_doRegisters_146 rfl (lv_at hl 3 rfl) ?_
            refine lv_bipush (v := 24) hx hb dX8_doRegisters_147 (by decide) ?_
            refine lv_icmp_ne (tgt := 163) hx hb dX8_doRegisters_149 (by decide) (fun c_9 => ?_) (fun c_9 => ?_)
            · skip
              rw [if_neg c_9] at hF
              rw [if_neg c_9] at hs
              refine lv_iload_n hx hb dX8_doRegisters_163 rfl (lv_at hl 3 rfl) ?_
              refine lv_bipush (v := 25) hx hb dX8_doRegisters_164 (by decide) ?_
              refine lv_icmp_ne (tgt := 180) hx hb dX8_doRegisters_166 (by decide) (fun c_10 => ?_) (fun c_10 => ?_)
              · skip
                rw [if_neg c_10] at hF
                rw [if_neg c_10] at hs
                refine lv_iload_n hx hb dX8_doRegisters_180 rfl (lv_at hl 3 rfl) ?_
                refine lv_bipush (v := 28) hx hb dX8_doRegisters_181 (by decide) ?_
                refine lv_icmp_ge (tgt := 222) hx hb dX8_doRegisters_183 (by decide) (fun c_11 => ?_) (fun c_11 => ?_)
                · skip
                  rw [if_pos c_11] at hF
                  rw [if_pos c_11] at hs
                  refine lv_iload_n hx hb dX8_doRegisters_222 rfl (lv_at hl 3 rfl) ?_
                  refine lv_bipush (v := 28) hx hb dX8_doRegisters_223 (by decide) ?_
                  refine lv_icmp_ne (tgt := 269) hx hb dX8_doRegisters_225 (by decide) (fun c_12 => ?_) (fun c_12 => ?_)
                  · skip
                    rw [if_neg c_12] at hF
                    rw [if_neg c_12] at hs
                    refine lv_aload_n hx hb dX8_doRegisters_269 rfl (lv_at hl 2 rfl) ?_
                    refine lv_iload_n hx hb dX8_doRegisters_270 rfl (lv_at hl 4 rfl) ?_
                    refine lv_iload hx hb dX8_doRegisters_271 (lv_at hl 0 rfl) ?_
                    have hi_13 := hs
                    refine q_Vv (rest := []) (c_X8_divide l D a_this a_this_reg a_this_bytes a_this_keys a_this_card a_this_filled a_this_taken a_this_line a_this_one a_this_two k_this_reg w_5 r_this_reg p2 (r_this_reg p3.toNatClampNeg) hi_13) cv_X8_divide hx hb hml hown ht hN hK hA hP hD hS hl.1 (km_X8_139) ⟨Nat.le_of_ble_eq_true rfl, Nat.le_of_ble_eq_true rfl⟩ rfl rfl [0, 3] (by decide) rfl [2] rfl (fun _ => rfl) (ci := 8) rfl rfl rfl rfl rfl (Nat.le_of_ble_eq_true rfl) dX8_doRegisters_273 ⟨Nat.zero_le _, Nat.zero_le _⟩ (fun w_14 H locs hw hP hD hS => ?_)
                    have hP : va_P D vwCl [(a_this, oX8 a_this_bytes a_this_keys a_this_reg a_this_card a_this_filled a_this_taken a_this_line a_this_one a_this_two w_14.1), (a_this_bytes, .inl (k_this_bytes, 2048, .inl r_this_bytes)), (a_this_keys, .inl (k_this_keys, 8, .inl r_this_keys)), (a_this_reg, .inl (k_this_reg, 16, .inl w_14.2))] H := hP
                    have hD : va_D A [(a_this, oX8 a_this_bytes a_this_keys a_this_reg a_this_card a_this_filled a_this_taken a_this_line a_this_one a_this_two w_14.1), (a_this_bytes, .inl (k_this_bytes, 2048, .inl r_this_bytes)), (a_this_keys, .inl (k_this_keys, 8, .inl r_this_keys)), (a_this_reg, .inl (k_this_reg, 16, .inl w_14.2))] := hD
                    rw [q_let_of hw] at hF
                    exact hQ (w_14.1, r_this_bytes, r_this_keys, w_14.2) _ _ _ _ dX8_doRegisters_276 hF.symm hP hD hS
                  · skip
                    rw [if_pos c_12] at hF
                    rw [if_pos c_12] at hs
                    refine lv_aload_n hx hb dX8_doRegisters_228 rfl (lv_at hl 2 rfl) ?_
                    refine gf_X8_16 (v := .ref a_this_reg) hx hb hown ht hK hP 0 rfl rfl dX8_doRegisters_229 ?_
                    refine lv_iload_n hx hb dX8_doRegisters_232 rfl (lv_at hl 4 rfl) ?_
                    refine lv_iconst (v := 1) hx hb dX8_doRegisters_233 (by decide) ?_
                    refine lv_iadd hx hb dX8_doRegisters_234 ?_
                    obtain ⟨hi_15, hs⟩ := hs
                    refine va_iald hx hb hK hP 3 2 rfl rfl hi_15 dX8_doRegisters_235 ?_
                    refine lv_i2l hx hb dX8_doRegisters_236 rfl ?_
                    refine lv_iload hx hb dX8_doRegisters_237 (lv_at hl 0 rfl) ?_
                    refine lv_i2l hx hb dX8_doRegisters_239 rfl ?_
                    refine lv_lmul hx hb dX8_doRegisters_240 ?_
                    refine lv_lstore (lv' := [(6, .long (((r_this_reg (p2 + (1 : Int32)).toNatClampNeg).toInt64) * ((r_this_reg p3.toNatClampNeg).toInt64))), (5, .int (r_this_reg p3.toNatClampNeg)), (4, .int (r_this_reg p2.toNatClampNeg)), (0, .ref a_this), (1, .int p1), (2, .int p2), (3, .int p3)]) hx hb dX8_doRegisters_241 hl (by decide) rfl (fun ls hl => ?_)
                    refine lv_aload_n hx hb dX8_doRegisters_243 rfl (lv_at hl 3 rfl) ?_
                    refine gf_X8_16 (v := .ref a_this_reg) hx hb hown ht hK hP 0 rfl rfl dX8_doRegisters_244 ?_
                    refine lv_iload_n hx hb dX8_doRegisters_247 rfl (lv_at hl 5 rfl) ?_
                    refine lv_lload hx hb dX8_doRegisters_248 (lv_at hl 0 rfl) ?_
                    refine lv_bipush (v := 32) hx hb dX8_doRegisters_250 (by decide) ?_
                    refine lv_lshr hx hb dX8_doRegisters_252 rfl ?_
                    refine lv_l2i hx hb dX8_doRegisters_253 rfl ?_
                    obtain ⟨hi_16, hs⟩ := hs
                    refine va_iast hx hb hK hP hD hS 3 2 rfl rfl hi_16 dX8_doRegisters_254 (fun H locs hP hD hS => ?_)
                    have hP : va_P D vwCl [(a_this, oX8 a_this_bytes a_this_keys a_this_reg a_this_card a_this_filled a_this_taken a_this_line a_this_one a_this_two w_5), (a_this_bytes, .inl (k_this_bytes, 2048, .inl r_this_bytes)), (a_this_keys, .inl (k_this_keys, 8, .inl r_this_keys)), (a_this_reg, .inl (k_this_reg, 16, .inl (upd r_this_reg p2.toNatClampNeg (((((r_this_reg (p2 + (1 : Int32)).toNatClampNeg).toInt64) * ((r_this_reg p3.toNatClampNeg).toInt64)) >>> ((32 : Int32).toInt64 &&& 63)).toInt32))))] H := hP
                    have hD : va_D A [(a_this, oX8 a_this_bytes a_this_keys a_this_reg a_this_card a_this_filled a_this_taken a_this_line a_this_one a_this_two w_5), (a_this_bytes, .inl (k_this_bytes, 2048, .inl r_this_bytes)), (a_this_keys, .inl (k_this_keys, 8, .inl r_this_keys)), (a_this_reg, .inl (k_this_reg, 16, .inl (upd r_this_reg p2.toNatClampNeg (((((r_this_reg (p2 + (1 : Int32)).toNatClampNeg).toInt64) * ((r_this_reg p3.toNatClampNeg).toInt64)) >>> ((32 : Int32).toInt64 &&& 63)).toInt32))))] := hD
                    refine lv_aload_n hx hb dX8_doRegisters_255 rfl (lv_at hl 3 rfl) ?_
                    refine gf_X8_16 (v := .ref a_this_reg) hx hb hown ht hK hP 0 rfl rfl dX8_doRegisters_256 ?_
                    refine lv_iload_n hx hb dX8_doRegisters_259 rfl (lv_at hl 5 rfl) ?_
                    refine lv_iconst (v := 1) hx hb dX8_doRegisters_260 (by decide) ?_
                    refine lv_iadd hx hb dX8_doRegisters_261 ?_
                    refine lv_lload hx hb dX8_doRegisters_262 (lv_at hl 0 rfl) ?_
                    refine lv_l2i hx hb dX8_doRegisters_264 rfl ?_
                    have hi_17 := hs
                    refine va_iast hx hb hK hP hD hS 3 2 rfl rfl hi_17 dX8_doRegisters_265 (fun H locs hP hD hS => ?_)
                    have hP : va_P D vwCl [(a_this, oX8 a_this_bytes a_this_keys a_this_reg a_this_card a_this_filled a_this_taken a_this_line a_this_one a_this_two w_5), (a_this_bytes, .inl (k_this_bytes, 2048, .inl r_this_bytes)), (a_this_keys, .inl (k_this_keys, 8, .inl r_this_keys)), (a_this_reg, .inl (k_this_reg, 16, .inl (upd (upd r_this_reg p2.toNatClampNeg (((((r_this_reg (p2 + (1 : Int32)).toNatClampNeg).toInt64) * ((r_this_reg p3.toNatClampNeg).toInt64)) >>> ((32 : Int32).toInt64 &&& 63)).toInt32)) (p2 + (1 : Int32)).toNatClampNeg ((((r_this_reg (p2 + (1 : Int32)).toNatClampNeg).toInt64) * ((r_this_reg p3.toNatClampNeg).toInt64)).toInt32))))] H := hP
                    have hD : va_D A [(a_this, oX8 a_this_bytes a_this_keys a_this_reg a_this_card a_this_filled a_this_taken a_this_line a_this_one a_this_two w_5), (a_this_bytes, .inl (k_this_bytes, 2048, .inl r_this_bytes)), (a_this_keys, .inl (k_this_keys, 8, .inl r_this_keys)), (a_this_reg, .inl (k_this_reg, 16, .inl (upd (upd r_this_reg p2.toNatClampNeg (((((r_this_reg (p2 + (1 : Int32)).toNatClampNeg).toInt64) * ((r_this_reg p3.toNatClampNeg).toInt64)) >>> ((32 : Int32).toInt64 &&& 63)).toInt32)) (p2 + (1 : Int32)).toNatClampNeg ((((r_this_reg (p2 + (1 : Int32)).toNatClampNeg).toInt64) * ((r_this_reg p3.toNatClampNeg).toInt64)).toInt32))))] := hD
                    refine lv_goto (tgt := 276) hx hb dX8_doRegisters_266 (by decide) ?_
                    exact hQ (w_5, r_this_bytes, r_this_keys, (upd (upd r_this_reg p2.toNatClampNeg (((((r_this_reg (p2 + (1 : Int32)).toNatClampNeg).toInt64) * ((r_this_reg p3.toNatClampNeg).toInt64)) >>> ((32 : Int32).toInt64 &&& 63)).toInt32)) (p2 + (1 : Int32)).toNatClampNeg ((((r_this_reg (p2 + (1 : Int32)).toNatClampNeg).toInt64) * ((r_this_reg p3.toNatClampNeg).toInt64)).toInt32))) _ _ _ _ dX8_doRegisters_276 hF.symm hP hD hS
                · skip
                  rw [if_neg c_11] at hF
                  rw [if_neg c_11] at hs
                  refine lv_aload_n hx hb dX8_doRegisters_186 rfl (lv_at hl 2 rfl) ?_
                  refine gf_X8_16 (v := .ref a_this_reg) hx hb hown ht hK hP 0 rfl rfl dX8_doRegisters_187 ?_
                  refine lv_iload_n hx hb dX8_doRegisters_190 rfl (lv_at hl 4 rfl) ?_
                  refine lv_aload_n hx hb dX8_doRegisters_191 rfl (lv_at hl 2 rfl) ?_
                  refine lv_iload_n hx hb dX8_doRegisters_192 rfl (lv_at hl 3 rfl) ?_
                  refine lv_bipush (v := 26) hx hb dX8_doRegisters_193 (by decide) ?_
                  refine lv_icmp_ne (tgt := 208) hx hb dX8_doRegisters_195 (by decide) (fun c_18 => ?_) (fun c_18 => ?_)
                  · skip
                    rw [if_neg c_18] at hF
                    rw [if_neg c_18] at hs
                    refine lv_iload hx hb dX8_doRegisters_208 (lv_at hl 1 rfl) ?_
                    refine lv_i2l hx hb dX8_doRegisters_210 rfl ?_
                    refine lv_iload hx hb dX8_doRegisters_211 (lv_at hl 0 rfl) ?_
                    refine lv_i2l hx hb dX8_doRegisters_213 rfl ?_
                    refine lv_lsub hx hb dX8_doRegisters_214 ?_
                    refine q_Vi (rest := [.int p2, .ref a_this_reg]) (c_X8_summed l D a_this a_this_bytes a_this_keys a_this_reg a_this_card a_this_filled a_this_taken a_this_line a_this_one a_this_two w_5 (((r_this_reg p2.toNatClampNeg).toInt64) - ((r_this_reg p3.toNatClampNeg).toInt64))) cv_X8_summed hx hb hml hown ht hN hK hA hP hD hS hl.1 (km_X8_135) ⟨Nat.le_of_ble_eq_true rfl, Nat.le_of_ble_eq_true rfl⟩ rfl rfl [0] (by decide) rfl [] rfl (fun _ => rfl) (ci := 8) rfl rfl rfl rfl rfl (Nat.le_of_ble_eq_true rfl) dX8_doRegisters_215 ⟨Nat.zero_le _, Nat.zero_le _⟩ (fun r w_19 H locs hw hP hD hS => ?_)
                    obtain ⟨hw, hr⟩ := hw
                    subst hr
                    have hP : va_P D vwCl [(a_this, oX8 a_this_bytes a_this_keys a_this_reg a_this_card a_this_filled a_this_taken a_this_line a_this_one a_this_two w_19.2), (a_this_bytes, .inl (k_this_bytes, 2048, .inl r_this_bytes)), (a_this_keys, .inl (k_this_keys, 8, .inl r_this_keys)), (a_this_reg, .inl (k_this_reg, 16, .inl r_this_reg))] H := hP
                    have hD : va_D A [(a_this, oX8 a_this_bytes a_this_keys a_this_reg a_this_card a_this_filled a_this_taken a_this_line a_this_one a_this_two w_19.2), (a_this_bytes, .inl (k_this_bytes, 2048, .inl r_this_bytes)), (a_this_keys, .inl (k_this_keys, 8, .inl r_this_keys)), (a_this_reg, .inl (k_this_reg, 16, .inl r_this_reg))] := hD
                    rw [q_let_of hw] at hF
                    rw [q_let_of hw] at hs
                    have hi_20 := hs
                    refine va_iast hx hb hK hP hD hS 3 2 rfl rfl hi_20 dX8_doRegisters_218 (fun H locs hP hD hS => ?_)
                    have hP : va_P D vwCl [(a_this, oX8 a_this_bytes a_this_keys a_this_reg a_this_card a_this_filled a_this_taken a_this_line a_this_one a_this_two w_19.2), (a_this_bytes, .inl (k_this_bytes, 2048, .inl r_this_bytes)), (a_this_keys, .inl (k_this_keys, 8, .inl r_this_keys)), (a_this_reg, .inl (k_this_reg, 16, .inl (upd r_this_reg p2.toNatClampNeg w_19.1)))] H := hP
                    have hD : va_D A [(a_this, oX8 a_this_bytes a_this_keys a_this_reg a_this_card a_this_filled a_this_taken a_this_line a_this_one a_this_two w_19.2), (a_this_bytes, .inl (k_this_bytes, 2048, .inl r_this_bytes)), (a_this_keys, .inl (k_this_keys, 8, .inl r_this_keys)), (a_this_reg, .inl (k_this_reg, 16, .inl (upd r_this_reg p2.toNatClampNeg w_19.1)))] := hD
                    refine lv_goto (tgt := 276) hx hb dX8_doRegisters_219 (by decide) ?_
                    exact hQ (w_19.2, r_this_bytes, r_this_keys, (upd r_this_reg p2.toNatClampNeg w_19.1)) _ _ _ _ dX8_doRegisters_276 hF.symm hP hD hS
                  · skip
                    rw [if_pos c_18] at hF
                    rw [if_pos c_18] at hs
                    refine lv_iload hx hb dX8_doRegisters_198 (lv_at hl 1 rfl) ?_
                    refine lv_i2l hx hb dX8_doRegisters_200 rfl ?_
                    refine lv_iload hx hb dX8_doRegisters_201 (lv_at hl 0 rfl) ?_
                    refine lv_i2l hx hb dX8_doRegisters_203 rfl ?_
                    refine lv_ladd hx hb dX8_doRegisters_204 ?_
                    refine lv_goto (tgt := 215) hx hb dX8_doRegisters_205 (by decide) ?_
                    refine q_Vi (rest := [.int p2, .ref a_this_reg]) (c_X8_summed l D a_this a_this_bytes a_this_keys a_this_reg a_this_card a_this_filled a_this_taken a_this_line a_this_one a_this_two w_5 (((r_this_reg p2.toNatClampNeg).toInt64) + ((r_this_reg p3.toNatClampNeg).toInt64))) cv_X8_summed hx hb hml hown ht hN hK hA hP hD hS hl.1 (km_X8_135) ⟨Nat.le_of_ble_eq_true rfl, Nat.le_of_ble_eq_true rfl⟩ rfl rfl [0] (by decide) rfl [] rfl (fun _ => rfl) (ci := 8) rfl rfl rfl rfl rfl (Nat.le_of_ble_eq_true rfl) dX8_doRegisters_215 ⟨Nat.zero_le _, Nat.zero_le _⟩ (fun r w_21 H locs hw hP hD hS => ?_)
                    obtain ⟨hw, hr⟩ := hw
                    subst hr
                    have hP : va_P D vwCl [(a_this, oX8 a_this_bytes a_this_keys a_this_reg a_this_card a_this_filled a_this_taken a_this_line a_this_one a_this_two w_21.2), (a_this_bytes, .inl (k_this_bytes, 2048, .inl r_this_bytes)), (a_this_keys, .inl (k_this_keys, 8, .inl r_this_keys)), (a_this_reg, .inl (k_this_reg, 16, .inl r_this_reg))] H := hP
                    have hD : va_D A [(a_this, oX8 a_this_bytes a_this_keys a_this_reg a_this_card a_this_filled a_this_taken a_this_line a_this_one a_this_two w_21.2), (a_this_bytes, .inl (k_this_bytes, 2048, .inl r_this_bytes)), (a_this_keys, .inl (k_this_keys, 8, .inl r_this_keys)), (a_this_reg, .inl (k_this_reg, 16, .inl r_this_reg))] := hD
                    rw [q_let_of hw] at hF
                    rw [q_let_of hw] at hs
                    have hi_22 := hs
                    refine va_iast hx hb hK hP hD hS 3 2 rfl rfl hi_22 dX8_doRegisters_218 (fun H locs hP hD hS => ?_)
                    have hP : va_P D vwCl [(a_this, oX8 a_this_bytes a_this_keys a_this_reg a_this_card a_this_filled a_this_taken a_this_line a_this_one a_this_two w_21.2), (a_this_bytes, .inl (k_this_bytes, 2048, .inl r_this_bytes)), (a_this_keys, .inl (k_this_keys, 8, .inl r_this_keys)), (a_this_reg, .inl (k_this_reg, 16, .inl (upd r_this_reg p2.toNatClampNeg w_21.1)))] H := hP
                    have hD : va_D A [(a_this, oX8 a_this_bytes a_this_keys a_this_reg a_this_card a_this_filled a_this_taken a_this_line a_this_one a_this_two w_21.2), (a_this_bytes, .inl (k_this_bytes, 2048, .inl r_this_bytes)), (a_this_keys, .inl (k_this_keys, 8, .inl r_this_keys)), (a_this_reg, .inl (k_this_reg, 16, .inl (upd r_this_reg p2.toNatClampNeg w_21.1)))] := hD
                    refine lv_goto (tgt := 276) hx hb dX8_doRegisters_219 (by decide) ?_
                    exact hQ (w_21.2, r_this_bytes, r_this_keys, (upd r_this_reg p2.toNatClampNeg w_21.1)) _ _ _ _ dX8_doRegisters_276 hF.symm hP hD hS
              · skip
                rw [if_pos c_10] at hF
                rw [if_pos c_10] at hs
                refine lv_aload_n hx hb dX8_doRegisters_169 rfl (lv_at hl 2 rfl) ?_
                refine lv_iload hx hb dX8_doRegisters_170 (lv_at hl 1 rfl) ?_
                refine lv_iload hx hb dX8_doRegisters_172 (lv_at hl 0 rfl) ?_
                refine q_Vv (rest := []) (c_X8_compared l D a_this a_this_bytes a_this_keys a_this_reg a_this_card a_this_filled a_this_taken a_this_line a_this_one a_this_two w_5 (r_this_reg p2.toNatClampNeg) (r_this_reg p3.toNatClampNeg)) cv_X8_compared hx hb hml hown ht hN hK hA hP hD hS hl.1 (km_X8_131) ⟨Nat.le_of_ble_eq_true rfl, Nat.le_of_ble_eq_true rfl⟩ rfl rfl [0] (by decide) rfl [] rfl (fun _ => rfl) (ci := 8) rfl rfl rfl rfl rfl (Nat.le_of_ble_eq_true rfl) dX8_doRegisters_174 ⟨Nat.zero_le _, Nat.zero_le _⟩ (fun w_23 H locs hw hP hD hS => ?_)
                have hP : va_P D vwCl [(a_this, oX8 a_this_bytes a_this_keys a_this_reg a_this_card a_this_filled a_this_taken a_this_line a_this_one a_this_two w_23), (a_this_bytes, .inl (k_this_bytes, 2048, .inl r_this_bytes)), (a_this_keys, .inl (k_this_keys, 8, .inl r_this_keys)), (a_this_reg, .inl (k_this_reg, 16, .inl r_this_reg))] H := hP
                have hD : va_D A [(a_this, oX8 a_this_bytes a_this_keys a_this_reg a_this_card a_this_filled a_this_taken a_this_line a_this_one a_this_two w_23), (a_this_bytes, .inl (k_this_bytes, 2048, .inl r_this_bytes)), (a_this_keys, .inl (k_this_keys, 8, .inl r_this_keys)), (a_this_reg, .inl (k_this_reg, 16, .inl r_this_reg))] := hD
                rw [q_let_of hw] at hF
                refine lv_goto (tgt := 276) hx hb dX8_doRegisters_177 (by decide) ?_
                exact hQ (w_23, r_this_bytes, r_this_keys, r_this_reg) _ _ _ _ dX8_doRegisters_276 hF.symm hP hD hS
            · skip
              rw [if_pos c_9] at hF
              rw [if_pos c_9] at hs
              refine lv_aload_n hx hb dX8_doRegisters_152 rfl (lv_at hl 2 rfl) ?_
              refine gf_X8_16 (v := .ref a_this_reg) hx hb hown ht hK hP 0 rfl rfl dX8_doRegisters_153 ?_
              refine lv_iload_n hx hb dX8_doRegisters_156 rfl (lv_at hl 4 rfl) ?_
              refine lv_iload hx hb dX8_doRegisters_157 (lv_at hl 0 rfl) ?_
              have hi_24 := hs
              refine va_iast hx hb hK hP hD hS 3 2 rfl rfl hi_24 dX8_doRegisters_159 (fun H locs hP hD hS => ?_)
              have hP : va_P D vwCl [(a_this, oX8 a_this_bytes a_this_keys a_this_reg a_this_card a_this_filled a_this_taken a_this_line a_this_one a_this_two w_5), (a_this_bytes, .inl (k_this_bytes, 2048, .inl r_this_bytes)), (a_this_keys, .inl (k_this_keys, 8, .inl r_this_keys)), (a_this_reg, .inl (k_this_reg, 16, .inl (upd r_this_reg p2.toNatClampNeg (r_this_reg p3.toNatClampNeg))))] H := hP
              have hD : va_D A [(a_this, oX8 a_this_bytes a_this_keys a_this_reg a_this_card a_this_filled a_this_taken a_this_line a_this_one a_this_two w_5), (a_this_bytes, .inl (k_this_bytes, 2048, .inl r_this_bytes)), (a_this_keys, .inl (k_this_keys, 8, .inl r_this_keys)), (a_this_reg, .inl (k_this_reg, 16, .inl (upd r_this_reg p2.toNatClampNeg (r_this_reg p3.toNatClampNeg))))] := hD
              refine lv_goto (tgt := 276) hx hb dX8_doRegisters_160 (by decide) ?_
              exact hQ (w_5, r_this_bytes, r_this_keys, (upd r_this_reg p2.toNatClampNeg (r_this_reg p3.toNatClampNeg))) _ _ _ _ dX8_doRegisters_276 hF.symm hP hD hS
          · skip
            rw [if_neg c_8] at hF
            rw [if_neg c_8] at hs
            refine lv_aload_n hx hb dX8_doRegisters_76 rfl (lv_at hl 2 rfl) ?_
            refine gf_X8_16 (v := .ref a_this_reg) hx hb hown ht hK hP 0 rfl rfl dX8_doRegisters_77 ?_
            refine lv_iload_n hx hb dX8_doRegisters_80 rfl (lv_at hl 4 rfl) ?_
            refine lv_iload_n hx hb dX8_doRegisters_81 rfl (lv_at hl 3 rfl) ?_
            refine lv_bipush (v := 18) hx hb dX8_doRegisters_82 (by decide) ?_
            refine lv_icmp_ne (tgt := 92) hx hb dX8_doRegisters_84 (by decide) (fun c_25 => ?_) (fun c_25 => ?_)
            · skip
              rw [if_neg c_25] at hF
              rw [if_neg c_25] at hs
              refine lv_aload_n hx hb dX8_doRegisters_92 rfl (lv_at hl 2 rfl) ?_
              refine lv_iload_n hx hb dX8_doRegisters_93 rfl (lv_at hl 3 rfl) ?_
              refine lv_bipush (v := 20) hx hb dX8_doRegisters_94 (by decide) ?_
              refine lv_icmp_ne (tgt := 107) hx hb dX8_doRegisters_96 (by decide) (fun c_26 => ?_) (fun c_26 => ?_)
              · skip
                rw [if_neg c_26] at hF
                rw [if_neg c_26] at hs
                refine lv_iload_n hx hb dX8_doRegisters_107 rfl (lv_at hl 3 rfl) ?_
                refine lv_bipush (v := 22) hx hb dX8_doRegisters_108 (by decide) ?_
                refine lv_icmp_ne (tgt := 121) hx hb dX8_doRegisters_110 (by decide) (fun c_27 => ?_) (fun c_27 => ?_)
                · skip
                  rw [if_neg c_27] at hF
                  rw [if_neg c_27] at hs
                  refine lv_iload hx hb dX8_doRegisters_121 (lv_at hl 1 rfl) ?_
                  refine lv_iload hx hb dX8_doRegisters_123 (lv_at hl 0 rfl) ?_
                  refine lv_ixor hx hb dX8_doRegisters_125 ?_
                  refine q_Vi (rest := [.int p2, .ref a_this_reg]) (c_X8_logic l D a_this a_this_bytes a_this_keys a_this_reg a_this_card a_this_filled a_this_taken a_this_line a_this_one a_this_two w_5 ((r_this_reg p2.toNatClampNeg) ^^^ (r_this_reg p3.toNatClampNeg))) cv_X8_logic hx hb hml hown ht hN hK hA hP hD hS hl.1 (km_X8_128) ⟨Nat.le_of_ble_eq_true rfl, Nat.le_of_ble_eq_true rfl⟩ rfl rfl [0] (by decide) rfl [] rfl (fun _ => rfl) (ci := 8) rfl rfl rfl rfl rfl (Nat.le_of_ble_eq_true rfl) dX8_doRegisters_126 ⟨Nat.zero_le _, Nat.zero_le _⟩ (fun r w_28 H locs hw hP hD hS => ?_)
                  obtain ⟨hw, hr⟩ := hw
                  subst hr
                  have hP : va_P D vwCl [(a_this, oX8 a_this_bytes a_this_keys a_this_reg a_this_card a_this_filled a_this_taken a_this_line a_this_one a_this_two w_28.2), (a_this_bytes, .inl (k_this_bytes, 2048, .inl r_this_bytes)), (a_this_keys, .inl (k_this_keys, 8, .inl r_this_keys)), (a_this_reg, .inl (k_this_reg, 16, .inl r_this_reg))] H := hP
                  have hD : va_D A [(a_this, oX8 a_this_bytes a_this_keys a_this_reg a_this_card a_this_filled a_this_taken a_this_line a_this_one a_this_two w_28.2), (a_this_bytes, .inl (k_this_bytes, 2048, .inl r_this_bytes)), (a_this_keys, .inl (k_this_keys, 8, .inl r_this_keys)), (a_this_reg, .inl (k_this_reg, 16, .inl r_this_reg))] := hD
                  rw [q_let_of hw] at hF
                  rw [q_let_of hw] at hs
                  have hi_29 := hs
                  refine va_iast hx hb hK hP hD hS 3 2 rfl rfl hi_29 dX8_doRegisters_129 (fun H locs hP hD hS => ?_)
                  have hP : va_P D vwCl [(a_this, oX8 a_this_bytes a_this_keys a_this_reg a_this_card a_this_filled a_this_taken a_this_line a_this_one a_this_two w_28.2), (a_this_bytes, .inl (k_this_bytes, 2048, .inl r_this_bytes)), (a_this_keys, .inl (k_this_keys, 8, .inl r_this_keys)), (a_this_reg, .inl (k_this_reg, 16, .inl (upd r_this_reg p2.toNatClampNeg w_28.1)))] H := hP
                  have hD : va_D A [(a_this, oX8 a_this_bytes a_this_keys a_this_reg a_this_card a_this_filled a_this_taken a_this_line a_this_one a_this_two w_28.2), (a_this_bytes, .inl (k_this_bytes, 2048, .inl r_this_bytes)), (a_this_keys, .inl (k_this_keys, 8, .inl r_this_keys)), (a_this_reg, .inl (k_this_reg, 16, .inl (upd r_this_reg p2.toNatClampNeg w_28.1)))] := hD
                  refine lv_iload_n hx hb dX8_doRegisters_130 rfl (lv_at hl 3 rfl) ?_
                  refine lv_bipush (v := 18) hx hb dX8_doRegisters_131 (by decide) ?_
                  refine lv_icmp_ne (tgt := 276) hx hb dX8_doRegisters_133 (by decide) (fun c_30 => ?_) (fun c_30 => ?_)
                  · skip
                    rw [if_neg c_30] at hF
                    exact hQ (w_28.2, r_this_bytes, r_this_keys, (upd r_this_reg p2.toNatClampNeg w_28.1)) _ _ _ _ dX8_doRegisters_276 hF.symm hP hD hS
                  · skip
                    rw [if_pos c_30] at hF
                    refine lv_aload_n hx hb dX8_doRegisters_136 rfl (lv_at hl 2 rfl) ?_
                    refine lv_iload hx hb dX8_doRegisters_137 (lv_at hl 0 rfl) ?_
                    refine lv_i2l hx hb dX8_doRegisters_139 rfl ?_
                    refine q_Vv (rest := []) (c_X8_sign l D a_this a_this_bytes a_this_keys a_this_reg a_this_card a_this_filled a_this_taken a_this_line a_this_one a_this_two w_28.2 ((r_this_reg p3.toNatClampNeg).toInt64)) cv_X8_sign hx hb hml hown ht hN hK hA hP hD hS hl.1 (km_X8_120) ⟨Nat.le_of_ble_eq_true rfl, Nat.le_of_ble_eq_true rfl⟩ rfl rfl [0] (by decide) rfl [] rfl (fun _ => rfl) (ci := 8) rfl rfl rfl rfl rfl (Nat.le_of_ble_eq_true rfl) dX8_doRegisters_140 ⟨Nat.zero_le _, Nat.zero_le _⟩ (fun w_31 H locs hw hP hD hS => ?_)
                    have hP : va_P D vwCl [(a_this, oX8 a_this_bytes a_this_keys a_this_reg a_this_card a_this_filled a_this_taken a_this_line a_this_one a_this_two w_31), (a_this_bytes, .inl (k_this_bytes, 2048, .inl r_this_bytes)), (a_this_keys, .inl (k_this_keys, 8, .inl r_this_keys)), (a_this_reg, .inl (k_this_reg, 16, .inl (upd r_this_reg p2.toNatClampNeg w_28.1)))] H := hP
                    have hD : va_D A [(a_this, oX8 a_this_bytes a_this_keys a_this_reg a_this_card a_this_filled a_this_taken a_this_line a_this_one a_this_two w_31), (a_this_bytes, .inl (k_this_bytes, 2048, .inl r_this_bytes)), (a_this_keys, .inl (k_this_keys, 8, .inl r_this_keys)), (a_this_reg, .inl (k_this_reg, 16, .inl (upd r_this_reg p2.toNatClampNeg w_28.1)))] := hD
                    rw [q_let_of hw] at hF
                    refine lv_goto (tgt := 276) hx hb dX8_doRegisters_143 (by decide) ?_
                    exact hQ (w_31, r_this_bytes, r_this_keys, (upd r_this_reg p2.toNatClampNeg w_28.1)) _ _ _ _ dX8_doRegisters_276 hF.symm hP hD hS
                · skip
                  rw [if_pos c_27] at hF
                  rw [if_pos c_27] at hs
                  refine lv_iload hx hb dX8_doRegisters_113 (lv_at hl 1 rfl) ?_
                  refine lv_iload hx hb dX8_doRegisters_115 (lv_at hl 0 rfl) ?_
                  refine lv_ior hx hb dX8_doRegisters_117 ?_
                  refine lv_goto (tgt := 126) hx hb dX8_doRegisters_118 (by decide) ?_
                  refine q_Vi (rest := [.int p2, .ref a_this_reg]) (c_X8_logic l D a_this a_this_bytes a_this_keys a_this_reg a_this_card a_this_filled a_this_taken a_this_line a_this_one a_this_two w_5 ((r_this_reg p2.toNatClampNeg) ||| (r_this_reg p3.toNatClampNeg))) cv_X8_logic hx hb hml hown ht hN hK hA hP hD hS hl.1 (km_X8_128) ⟨Nat.le_of_ble_eq_true rfl, Nat.le_of_ble_eq_true rfl⟩ rfl rfl [0] (by decide) rfl [] rfl (fun _ => rfl) (ci := 8) rfl rfl rfl rfl rfl (Nat.le_of_ble_eq_true rfl) dX8_doRegisters_126 ⟨Nat.zero_le _, Nat.zero_le _⟩ (fun r w_32 H locs hw hP hD hS => ?_)
                  obtain ⟨hw, hr⟩ := hw
                  subst hr
                  have hP : va_P D vwCl [(a_this, oX8 a_this_bytes a_this_keys a_this_reg a_this_card a_this_filled a_this_taken a_this_line a_this_one a_this_two w_32.2), (a_this_bytes, .inl (k_this_bytes, 2048, .inl r_this_bytes)), (a_this_keys, .inl (k_this_keys, 8, .inl r_this_keys)), (a_this_reg, .inl (k_this_reg, 16, .inl r_this_reg))] H := hP
                  have hD : va_D A [(a_this, oX8 a_this_bytes a_this_keys a_this_reg a_this_card a_this_filled a_this_taken a_this_line a_this_one a_this_two w_32.2), (a_this_bytes, .inl (k_this_bytes, 2048, .inl r_this_bytes)), (a_this_keys, .inl (k_this_keys, 8, .inl r_this_keys)), (a_this_reg, .inl (k_this_reg, 16, .inl r_this_reg))] := hD
                  rw [q_let_of hw] at hF
                  rw [q_let_of hw] at hs
                  have hi_33 := hs
                  refine va_iast hx hb hK hP hD hS 3 2 rfl rfl hi_33 dX8_doRegisters_129 (fun H locs hP hD hS => ?_)
                  have hP : va_P D vwCl [(a_this, oX8 a_this_bytes a_this_keys a_this_reg a_this_card a_this_filled a_this_taken a_this_line a_this_one a_this_two w_32.2), (a_this_bytes, .inl (k_this_bytes, 2048, .inl r_this_bytes)), (a_this_keys, .inl (k_this_keys, 8, .inl r_this_keys)), (a_this_reg, .inl (k_this_reg, 16, .inl (upd r_this_reg p2.toNatClampNeg w_32.1)))] H := hP
                  have hD : va_D A [(a_this, oX8 a_this_bytes a_this_keys a_this_reg a_this_card a_this_filled a_this_taken a_this_line a_this_one a_this_two w_32.2), (a_this_bytes, .inl (k_this_bytes, 2048, .inl r_this_bytes)), (a_this_keys, .inl (k_this_keys, 8, .inl r_this_keys)), (a_this_reg, .inl (k_this_reg, 16, .inl (upd r_this_reg p2.toNatClampNeg w_32.1)))] := hD
                  refine lv_iload_n hx hb dX8_doRegisters_130 rfl (lv_at hl 3 rfl) ?_
                  refine lv_bipush (v := 18) hx hb dX8_doRegisters_131 (by decide) ?_
                  refine lv_icmp_ne (tgt := 276) hx hb dX8_doRegisters_133 (by decide) (fun c_34 => ?_) (fun c_34 => ?_)
                  · skip
                    rw [if_neg c_34] at hF
                    exact hQ (w_32.2, r_this_bytes, r_this_keys, (upd r_this_reg p2.toNatClampNeg w_32.1)) _ _ _ _ dX8_doRegisters_276 hF.symm hP hD hS
                  · skip
                    rw [if_pos c_34] at hF
                    refine lv_aload_n hx hb dX8_doRegisters_136 rfl (lv_at hl 2 rfl) ?_
                    refine lv_iload hx hb dX8_doRegisters_137 (lv_at hl 0 rfl) ?_
                    refine lv_i2l hx hb dX8_doRegisters_139 rfl ?_
                    refine q_Vv (rest := []) (c_X8_sign l D a_this a_this_bytes a_this_keys a_this_reg a_this_card a_this_filled a_this_taken a_this_line a_this_one a_this_two w_32.2 ((r_this_reg p3.toNatClampNeg).toInt64)) cv_X8_sign hx hb hml hown ht hN hK hA hP hD hS hl.1 (km_X8_120) ⟨Nat.le_of_ble_eq_true rfl, Nat.le_of_ble_eq_true rfl⟩ rfl rfl [0] (by decide) rfl [] rfl (fun _ => rfl) (ci := 8) rfl rfl rfl rfl rfl (Nat.le_of_ble_eq_true rfl) dX8_doRegisters_140 ⟨Nat.zero_le _, Nat.zero_le _⟩ (fun w_35 H locs hw hP hD hS => ?_)
                    have hP : va_P D vwCl [(a_this, oX8 a_this_bytes a_this_keys a_this_reg a_this_card a_this_filled a_this_taken a_this_line a_this_one a_this_two w_35), (a_this_bytes, .inl (k_this_bytes, 2048, .inl r_this_bytes)), (a_this_keys, .inl (k_this_keys, 8, .inl r_this_keys)), (a_this_reg, .inl (k_this_reg, 16, .inl (upd r_this_reg p2.toNatClampNeg w_32.1)))] H := hP
                    have hD : va_D A [(a_this, oX8 a_this_bytes a_this_keys a_this_reg a_this_card a_this_filled a_this_taken a_this_line a_this_one a_this_two w_35), (a_this_bytes, .inl (k_this_bytes, 2048, .inl r_this_bytes)), (a_this_keys, .inl (k_this_keys, 8, .inl r_this_keys)), (a_this_reg, .inl (k_this_reg, 16, .inl (upd r_this_reg p2.toNatClampNeg w_32.1)))] := hD
                    rw [q_let_of hw] at hF
                    refine lv_goto (tgt := 276) hx hb dX8_doRegisters_143 (by decide) ?_
                    exact hQ (w_35, r_this_bytes, r_this_keys, (upd r_this_reg p2.toNatClampNeg w_32.1)) _ _ _ _ dX8_doRegisters_276 hF.symm hP hD hS
              · skip
                rw [if_pos c_26] at hF
                rw [if_pos c_26] at hs
                refine lv_iload hx hb dX8_doRegisters_99 (lv_at hl 1 rfl) ?_
                refine lv_iload hx hb dX8_doRegisters_101 (lv_at hl 0 rfl) ?_
                refine lv_iand hx hb dX8_doRegisters_103 ?_
                refine lv_goto (tgt := 126) hx hb dX8_doRegisters_104 (by decide) ?_
                refine q_Vi (rest := [.int p2, .ref a_this_reg]) (c_X8_logic l D a_this a_this_bytes a_this_keys a_this_reg a_this_card a_this_filled a_this_taken a_this_line a_this_one a_this_two w_5 ((r_this_reg p2.toNatClampNeg) &&& (r_this_reg p3.toNatClampNeg))) cv_X8_logic hx hb hml hown ht hN hK hA hP hD hS hl.1 (km_X8_128) ⟨Nat.le_of_ble_eq_true rfl, Nat.le_of_ble_eq_true rfl⟩ rfl rfl [0] (by decide) rfl [] rfl (fun _ => rfl) (ci := 8) rfl rfl rfl rfl rfl (Nat.le_of_ble_eq_true rfl) dX8_doRegisters_126 ⟨Nat.zero_le _, Nat.zero_le _⟩ (fun r w_36 H locs hw hP hD hS => ?_)
                obtain ⟨hw, hr⟩ := hw
                subst hr
                have hP : va_P D vwCl [(a_this, oX8 a_this_bytes a_this_keys a_this_reg a_this_card a_this_filled a_this_taken a_this_line a_this_one a_this_two w_36.2), (a_this_bytes, .inl (k_this_bytes, 2048, .inl r_this_bytes)), (a_this_keys, .inl (k_this_keys, 8, .inl r_this_keys)), (a_this_reg, .inl (k_this_reg, 16, .inl r_this_reg))] H := hP
                have hD : va_D A [(a_this, oX8 a_this_bytes a_this_keys a_this_reg a_this_card a_this_filled a_this_taken a_this_line a_this_one a_this_two w_36.2), (a_this_bytes, .inl (k_this_bytes, 2048, .inl r_this_bytes)), (a_this_keys, .inl (k_this_keys, 8, .inl r_this_keys)), (a_this_reg, .inl (k_this_reg, 16, .inl r_this_reg))] := hD
                rw [q_let_of hw] at hF
                rw [q_let_of hw] at hs
                have hi_37 := hs
                refine va_iast hx hb hK hP hD hS 3 2 rfl rfl hi_37 dX8_doRegisters_129 (fun H locs hP hD hS => ?_)
                have hP : va_P D vwCl [(a_this, oX8 a_this_bytes a_this_keys a_this_reg a_this_card a_this_filled a_this_taken a_this_line a_this_one a_this_two w_36.2), (a_this_bytes, .inl (k_this_bytes, 2048, .inl r_this_bytes)), (a_this_keys, .inl (k_this_keys, 8, .inl r_this_keys)), (a_this_reg, .inl (k_this_reg, 16, .inl (upd r_this_reg p2.toNatClampNeg w_36.1)))] H := hP
                have hD : va_D A [(a_this, oX8 a_this_bytes a_this_keys a_this_reg a_this_card a_this_filled a_this_taken a_this_line a_this_one a_this_two w_36.2), (a_this_bytes, .inl (k_this_bytes, 2048, .inl r_this_bytes)), (a_this_keys, .inl (k_this_keys, 8, .inl r_this_keys)), (a_this_reg, .inl (k_this_reg, 16, .inl (upd r_this_reg p2.toNatClampNeg w_36.1)))] := hD
                refine lv_iload_n hx hb dX8_doRegisters_130 rfl (lv_at hl 3 rfl) ?_
                refine lv_bipush (v := 18) hx hb dX8_doRegisters_131 (by decide) ?_
                refine lv_icmp_ne (tgt := 276) hx hb dX8_doRegisters_133 (by decide) (fun c_38 => ?_) (fun c_38 => ?_)
                · skip
                  rw [if_neg c_38] at hF
                  exact hQ (w_36.2, r_this_bytes, r_this_keys, (upd r_this_reg p2.toNatClampNeg w_36.1)) _ _ _ _ dX8_doRegisters_276 hF.symm hP hD hS
                · skip
                  rw [if_pos c_38] at hF
                  refine lv_aload_n hx hb dX8_doRegisters_136 rfl (lv_at hl 2 rfl) ?_
                  refine lv_iload hx hb dX8_doRegisters_137 (lv_at hl 0 rfl) ?_
                  refine lv_i2l hx hb dX8_doRegisters_139 rfl ?_
                  refine q_Vv (rest := []) (c_X8_sign l D a_this a_this_bytes a_this_keys a_this_reg a_this_card a_this_filled a_this_taken a_this_line a_this_one a_this_two w_36.2 ((r_this_reg p3.toNatClampNeg).toInt64)) cv_X8_sign hx hb hml hown ht hN hK hA hP hD hS hl.1 (km_X8_120) ⟨Nat.le_of_ble_eq_true rfl, Nat.le_of_ble_eq_true rfl⟩ rfl rfl [0] (by decide) rfl [] rfl (fun _ => rfl) (ci := 8) rfl rfl rfl rfl rfl (Nat.le_of_ble_eq_true rfl) dX8_doRegisters_140 ⟨Nat.zero_le _, Nat.zero_le _⟩ (fun w_39 H locs hw hP hD hS => ?_)
                  have hP : va_P D vwCl [(a_this, oX8 a_this_bytes a_this_keys a_this_reg a_this_card a_this_filled a_this_taken a_this_line a_this_one a_this_two w_39), (a_this_bytes, .inl (k_this_bytes, 2048, .inl r_this_bytes)), (a_this_keys, .inl (k_this_keys, 8, .inl r_this_keys)), (a_this_reg, .inl (k_this_reg, 16, .inl (upd r_this_reg p2.toNatClampNeg w_36.1)))] H := hP
                  have hD : va_D A [(a_this, oX8 a_this_bytes a_this_keys a_this_reg a_this_card a_this_filled a_this_taken a_this_line a_this_one a_this_two w_39), (a_this_bytes, .inl (k_this_bytes, 2048, .inl r_this_bytes)), (a_this_keys, .inl (k_this_keys, 8, .inl r_this_keys)), (a_this_reg, .inl (k_this_reg, 16, .inl (upd r_this_reg p2.toNatClampNeg w_36.1)))] := hD
                  rw [q_let_of hw] at hF
                  refine lv_goto (tgt := 276) hx hb dX8_doRegisters_143 (by decide) ?_
                  exact hQ (w_39, r_this_bytes, r_this_keys, (upd r_this_reg p2.toNatClampNeg w_36.1)) _ _ _ _ dX8_doRegisters_276 hF.symm hP hD hS
            · skip
              rw [if_pos c_25] at hF
              rw [if_pos c_25] at hs
              refine lv_iload hx hb dX8_doRegisters_87 (lv_at hl 0 rfl) ?_
              refine lv_goto (tgt := 129) hx hb dX8_doRegisters_89 (by decide) ?_
              have hi_40 := hs
              refine va_iast hx hb hK hP hD hS 3 2 rfl rfl hi_40 dX8_doRegisters_129 (fun H locs hP hD hS => ?_)
              have hP : va_P D vwCl [(a_this, oX8 a_this_bytes a_this_keys a_this_reg a_this_card a_this_filled a_this_taken a_this_line a_this_one a_this_two w_5), (a_this_bytes, .inl (k_this_bytes, 2048, .inl r_this_bytes)), (a_this_keys, .inl (k_this_keys, 8, .inl r_this_keys)), (a_this_reg, .inl (k_this_reg, 16, .inl (upd r_this_reg p2.toNatClampNeg (r_this_reg p3.toNatClampNeg))))] H := hP
              have hD : va_D A [(a_this, oX8 a_this_bytes a_this_keys a_this_reg a_this_card a_this_filled a_this_taken a_this_line a_this_one a_this_two w_5), (a_this_bytes, .inl (k_this_bytes, 2048, .inl r_this_bytes)), (a_this_keys, .inl (k_this_keys, 8, .inl r_this_keys)), (a_this_reg, .inl (k_this_reg, 16, .inl (upd r_this_reg p2.toNatClampNeg (r_this_reg p3.toNatClampNeg))))] := hD
              refine lv_iload_n hx hb dX8_doRegisters_130 rfl (lv_at hl 3 rfl) ?_
              refine lv_bipush (v := 18) hx hb dX8_doRegisters_131 (by decide) ?_
              refine lv_icmp_ne (tgt := 276) hx hb dX8_doRegisters_133 (by decide) (fun c_41 => ?_) (fun c_41 => ?_)
              · skip
                rw [if_neg c_41] at hF
                exact hQ (w_5, r_this_bytes, r_this_keys, (upd r_this_reg p2.toNatClampNeg (r_this_reg p3.toNatClampNeg))) _ _ _ _ dX8_doRegisters_276 hF.symm hP hD hS
              · skip
                rw [if_pos c_41] at hF
                refine lv_aload_n hx hb dX8_doRegisters_136 rfl (lv_at hl 2 rfl) ?_
                refine lv_iload hx hb dX8_doRegisters_137 (lv_at hl 0 rfl) ?_
                refine lv_i2l hx hb dX8_doRegisters_139 rfl ?_
                refine q_Vv (rest := []) (c_X8_sign l D a_this a_this_bytes a_this_keys a_this_reg a_this_card a_this_filled a_this_taken a_this_line a_this_one a_this_two w_5 ((r_this_reg p3.toNatClampNeg).toInt64)) cv_X8_sign hx hb hml hown ht hN hK hA hP hD hS hl.1 (km_X8_120) ⟨Nat.le_of_ble_eq_true rfl, Nat.le_of_ble_eq_true rfl⟩ rfl rfl [0] (by decide) rfl [] rfl (fun _ => rfl) (ci := 8) rfl rfl rfl rfl rfl (Nat.le_of_ble_eq_true rfl) dX8_doRegisters_140 ⟨Nat.zero_le _, Nat.zero_le _⟩ (fun w_42 H locs hw hP hD hS => ?_)
                have hP : va_P D vwCl [(a_this, oX8 a_this_bytes a_this_keys a_this_reg a_this_card a_this_filled a_this_taken a_this_line a_this_one a_this_two w_42), (a_this_bytes, .inl (k_this_bytes, 2048, .inl r_this_bytes)), (a_this_keys, .inl (k_this_keys, 8, .inl r_this_keys)), (a_this_reg, .inl (k_this_reg, 16, .inl (upd r_this_reg p2.toNatClampNeg (r_this_reg p3.toNatClampNeg))))] H := hP
                have hD : va_D A [(a_this, oX8 a_this_bytes a_this_keys a_this_reg a_this_card a_this_filled a_this_taken a_this_line a_this_one a_this_two w_42), (a_this_bytes, .inl (k_this_bytes, 2048, .inl r_this_bytes)), (a_this_keys, .inl (k_this_keys, 8, .inl r_this_keys)), (a_this_reg, .inl (k_this_reg, 16, .inl (upd r_this_reg p2.toNatClampNeg (r_this_reg p3.toNatClampNeg))))] := hD
                rw [q_let_of hw] at hF
                refine lv_goto (tgt := 276) hx hb dX8_doRegisters_143 (by decide) ?_
                exact hQ (w_42, r_this_bytes, r_this_keys, (upd r_this_reg p2.toNatClampNeg (r_this_reg p3.toNatClampNeg))) _ _ _ _ dX8_doRegisters_276 hF.symm hP hD hS
        · skip
          rw [if_neg c_7] at hF
          rw [if_neg c_7] at hs
          refine lv_aload_n hx hb dX8_doRegisters_60 rfl (lv_at hl 2 rfl) ?_
          refine lv_iload_n hx hb dX8_doRegisters_61 rfl (lv_at hl 3 rfl) ?_
          refine lv_iload_n hx hb dX8_doRegisters_62 rfl (lv_at hl 4 rfl) ?_
          refine lv_iload_n hx hb dX8_doRegisters_63 rfl (lv_at hl 5 rfl) ?_
          have hi_43 := hs
          refine q_Vv (rest := []) (c_X8_control l D a_this a_this_bytes a_this_keys a_this_reg a_this_card a_this_filled a_this_taken a_this_line a_this_one a_this_two k_this_bytes k_this_keys k_this_reg w_5 r_this_bytes r_this_keys r_this_reg p1 p2 p3 hi_43) cv_X8_control hx hb hml hown ht hN hK hA hP hD hS hl.1 (km_X8_125) ⟨Nat.le_of_ble_eq_true rfl, Nat.le_of_ble_eq_true rfl⟩ rfl rfl [0, 1, 2, 3] (by decide) rfl [0, 1, 2] rfl (fun _ => rfl) (ci := 8) rfl rfl rfl rfl rfl (Nat.le_of_ble_eq_true rfl) dX8_doRegisters_64 ⟨Nat.zero_le _, Nat.zero_le _⟩ (fun w_44 H locs hw hP hD hS => ?_)
          have hP : va_P D vwCl [(a_this, oX8 a_this_bytes a_this_keys a_this_reg a_this_card a_this_filled a_this_taken a_this_line a_this_one a_this_two w_44.1), (a_this_bytes, .inl (k_this_bytes, 2048, .inl w_44.2.1)), (a_this_keys, .inl (k_this_keys, 8, .inl w_44.2.2.1)), (a_this_reg, .inl (k_this_reg, 16, .inl w_44.2.2.2))] H := hP
          have hD : va_D A [(a_this, oX8 a_this_bytes a_this_keys a_this_reg a_this_card a_this_filled a_this_taken a_this_line a_this_one a_this_two w_44.1), (a_this_bytes, .inl (k_this_bytes, 2048, .inl w_44.2.1)), (a_this_keys, .inl (k_this_keys, 8, .inl w_44.2.2.1)), (a_this_reg, .inl (k_this_reg, 16, .inl w_44.2.2.2))] := hD
          rw [q_let_of hw] at hF
          refine lv_goto (tgt := 276) hx hb dX8_doRegisters_67 (by decide) ?_
          exact hQ (w_44.1, w_44.2.1, w_44.2.2.1, w_44.2.2.2) _ _ _ _ dX8_doRegisters_276 hF.symm hP hD hS
      · skip
        rw [if_neg c_6] at hF
        rw [if_neg c_6] at hs
        exact hQ (w_5, r_this_bytes, r_this_keys, r_this_reg) _ _ _ _ dX8_doRegisters_53 hF.symm hP hD hS
    · skip
      rw [if_pos c_4] at hF
      rw [if_pos c_4] at hs
      refine lv_iconst (v := 1) hx hb dX8_doRegisters_36 (by decide) ?_
      refine lv_goto (tgt := 41) hx hb dX8_doRegisters_37 (by decide) ?_
      refine lv_bipush (v := 6) hx hb dX8_doRegisters_41 (by decide) ?_
      refine q_Vv (rest := []) (c_X8_wrong l D a_this a_this_bytes a_this_keys a_this_reg a_this_card a_this_filled a_this_taken a_this_line a_this_one a_this_two o_this true 6) cv_X8_wrong hx hb hml hown ht hN hK hA hP hD hS hl.1 (km_X8_42) ⟨Nat.le_of_ble_eq_true rfl, Nat.le_of_ble_eq_true rfl⟩ rfl rfl [0] (by decide) rfl [] rfl (fun _ => rfl) (ci := 8) rfl rfl rfl rfl rfl (Nat.le_of_ble_eq_true rfl) dX8_doRegisters_43 ⟨Nat.zero_le _, Nat.zero_le _⟩ (fun w_45 H locs hw hP hD hS => ?_)
      have hP : va_P D vwCl [(a_this, oX8 a_this_bytes a_this_keys a_this_reg a_this_card a_this_filled a_this_taken a_this_line a_this_one a_this_two w_45), (a_this_bytes, .inl (k_this_bytes, 2048, .inl r_this_bytes)), (a_this_keys, .inl (k_this_keys, 8, .inl r_this_keys)), (a_this_reg, .inl (k_this_reg, 16, .inl r_this_reg))] H := hP
      have hD : va_D A [(a_this, oX8 a_this_bytes a_this_keys a_this_reg a_this_card a_this_filled a_this_taken a_this_line a_this_one a_this_two w_45), (a_this_bytes, .inl (k_this_bytes, 2048, .inl r_this_bytes)), (a_this_keys, .inl (k_this_keys, 8, .inl r_this_keys)), (a_this_reg, .inl (k_this_reg, 16, .inl r_this_reg))] := hD
      rw [q_let_of hw] at hF
      rw [q_let_of hw] at hs
      refine lv_aload_n hx hb dX8_doRegisters_46 rfl (lv_at hl 2 rfl) ?_
      refine gf_X8_38 (v := .int w_45.2.2.2.2.2.2.2.2.1) hx hb hown ht hK hP 0 rfl rfl dX8_doRegisters_47 ?_
      refine lv_if_le (tgt := 54) hx hb dX8_doRegisters_50 (by decide) (fun c_46 => ?_) (fun c_46 => ?_)
      · skip
        rw [if_pos c_46] at hF
        rw [if_pos c_46] at hs
        refine lv_iload_n hx hb dX8_doRegisters_54 rfl (lv_at hl 3 rfl) ?_
        refine lv_bipush (v := 16) hx hb dX8_doRegisters_55 (by decide) ?_
        refine lv_icmp_ge (tgt := 70) hx hb dX8_doRegisters_57 (by decide) (fun c_47 => ?_) (fun c_47 => ?_)
        · skip
          rw [if_pos c_47] at hF
          rw [if_pos c_47] at hs
          refine lv_iload_n hx hb dX8_doRegisters_70 rfl (lv_at hl 3 rfl) ?_
          refine lv_bipush (v := 24) hx hb dX8_doRegisters_71 (by decide) ?_
          refine lv_icmp_ge (tgt := 146) hx hb dX8_doRegisters_73 (by decide) (fun c_48 => ?_) (fun c_48 => ?_)
          · skip
            rw [if_pos c_48] at hF
            rw [if_pos c_48] at hs
            refine lv_iload_n hx hb dX8_doRegisters_146 rfl (lv_at hl 3 rfl) ?_
            refine lv_bipush (v := 24) hx hb dX8_doRegisters_147 (by decide) ?_
            refine lv_icmp_ne (tgt := 163) hx hb dX8_doRegisters_149 (by decide) (fun c_49 => ?_) (fun c_49 => ?_)
            · skip
              rw [if_neg c_49] at hF
              rw [if_neg c_49] at hs
              refine lv_iload_n hx hb dX8_doRegisters_163 rfl (lv_at hl 3 rfl) ?_
              refine lv_bipush (v := 25) hx hb dX8_doRegisters_164 (by decide) ?_
              refine lv_icmp_ne (tgt := 180) hx hb dX8_doRegisters_166 (by decide) (fun c_50 => ?_) (fun c_50 => ?_)
              · skip
                rw [if_neg c_50] at hF
                rw [if_neg c_50] at hs
                refine lv_iload_n hx hb dX8_doRegisters_180 rfl (lv_at hl 3 rfl) ?_
                refine lv_bipush (v := 28) hx hb dX8_doRegisters_181 (by decide) ?_
                refine lv_icmp_ge (tgt := 222) hx hb dX8_doRegisters_183 (by decide) (fun c_51 => ?_) (fun c_51 => ?_)
                · skip
                  rw [if_pos c_51] at hF
                  rw [if_pos c_51] at hs
                  refine lv_iload_n hx hb dX8_doRegisters_222 rfl (lv_at hl 3 rfl) ?_
                  refine lv_bipush (v := 28) hx hb dX8_doRegisters_223 (by decide) ?_
                  refine lv_icmp_ne (tgt := 269) hx hb dX8_doRegisters_225 (by decide) (fun c_52 => ?_) (fun c_52 => ?_)
                  · skip
                    rw [if_neg c_52] at hF
                    rw [if_neg c_52] at hs
                    refine lv_aload_n hx hb dX8_doRegisters_269 rfl (lv_at hl 2 rfl) ?_
                    refine lv_iload_n hx hb dX8_doRegisters_270 rfl (lv_at hl 4 rfl) ?_
                    refine lv_iload hx hb dX8_doRegisters_271 (lv_at hl 0 rfl) ?_
                    have hi_53 := hs
                    refine q_Vv (rest := []) (c_X8_divide l D a_this a_this_reg a_this_bytes a_this_keys a_this_card a_this_filled a_this_taken a_this_line a_this_one a_this_two k_this_reg w_45 r_this_reg p2 (r_this_reg p3.toNatClampNeg) hi_53) cv_X8_divide hx hb hml hown ht hN hK hA hP hD hS hl.1 (km_X8_139) ⟨Nat.le_of_ble_eq_true rfl, Nat.le_of_ble_eq_true rfl⟩ rfl rfl [0, 3] (by decide) rfl [2] rfl (fun _ => rfl) (ci := 8) rfl rfl rfl rfl rfl (Nat.le_of_ble_eq_true rfl) dX8_doRegisters_273 ⟨Nat.zero_le _, Nat.zero_le _⟩ (fun w_54 H locs hw hP hD hS => ?_)
                    have hP : va_P D vwCl [(a_this, oX8 a_this_bytes a_this_keys a_this_reg a_this_card a_this_filled a_this_taken a_this_line a_this_one a_this_two w_54.1), (a_this_bytes, .inl (k_this_bytes, 2048, .inl r_this_bytes)), (a_this_keys, .inl (k_this_keys, 8, .inl r_this_keys)), (a_this_reg, .inl (k_this_reg, 16, .inl w_54.2))] H := hP
                    have hD : va_D A [(a_this, oX8 a_this_bytes a_this_keys a_this_reg a_this_card a_this_filled a_this_taken a_this_line a_this_one a_this_two w_54.1), (a_this_bytes, .inl (k_this_bytes, 2048, .inl r_this_bytes)), (a_this_keys, .inl (k_this_keys, 8, .inl r_this_keys)), (a_this_reg, .inl (k_this_reg, 16, .inl w_54.2))] := hD
                    rw [q_let_of hw] at hF
                    exact hQ (w_54.1, r_this_bytes, r_this_keys, w_54.2) _ _ _ _ dX8_doRegisters_276 hF.symm hP hD hS
                  · skip
                    rw [if_pos c_52] at hF
                    rw [if_pos c_52] at hs
                    refine lv_aload_n hx hb dX8_doRegisters_228 rfl (lv_at hl 2 rfl) ?_
                    refine gf_X8_16 (v := .ref a_this_reg) hx hb hown ht hK hP 0 rfl rfl dX8_doRegisters_229 ?_
                    refine lv_iload_n hx hb dX8_doRegisters_232 rfl (lv_at hl 4 rfl) ?_
                    refine lv_iconst (v := 1) hx hb dX8_doRegisters_233 (by decide) ?_
                    refine lv_iadd hx hb dX8_doRegisters_234 ?_
                    obtain ⟨hi_55, hs⟩ := hs
                    refine va_iald hx hb hK hP 3 2 rfl rfl hi_55 dX8_doRegisters_235 ?_
                    refine lv_i2l hx hb dX8_doRegisters_236 rfl ?_
                    refine lv_iload hx hb dX8_doRegisters_237 (lv_at hl 0 rfl) ?_
                    refine lv_i2l hx hb dX8_doRegisters_239 rfl ?_
                    refine lv_lmul hx hb dX8_doRegisters_240 ?_
                    refine lv_lstore (lv' := [(6, .long (((r_this_reg (p2 + (1 : Int32)).toNatClampNeg).toInt64) * ((r_this_reg p3.toNatClampNeg).toInt64))), (5, .int (r_this_reg p3.toNatClampNeg)), (4, .int (r_this_reg p2.toNatClampNeg)), (0, .ref a_this), (1, .int p1), (2, .int p2), (3, .int p3)]) hx hb dX8_doRegisters_241 hl (by decide) rfl (fun ls hl => ?_)
                    refine lv_aload_n hx hb dX8_doRegisters_243 rfl (lv_at hl 3 rfl) ?_
                    refine gf_X8_16 (v := .ref a_this_reg) hx hb hown ht hK hP 0 rfl rfl dX8_doRegisters_244 ?_
                    refine lv_iload_n hx hb dX8_doRegisters_247 rfl (lv_at hl 5 rfl) ?_
                    refine lv_lload hx hb dX8_doRegisters_248 (lv_at hl 0 rfl) ?_
                    refine lv_bipush (v := 32) hx hb dX8_doRegisters_250 (by decide) ?_
                    refine lv_lshr hx hb dX8_doRegisters_252 rfl ?_
                    refine lv_l2i hx hb dX8_doRegisters_253 rfl ?_
                    obtain ⟨hi_56, hs⟩ := hs
                    refine va_iast hx hb hK hP hD hS 3 2 rfl rfl hi_56 dX8_doRegisters_254 (fun H locs hP hD hS => ?_)
                    have hP : va_P D vwCl [(a_this, oX8 a_this_bytes a_this_keys a_this_reg a_this_card a_this_filled a_this_taken a_this_line a_this_one a_this_two w_45), (a_this_bytes, .inl (k_this_bytes, 2048, .inl r_this_bytes)), (a_this_keys, .inl (k_this_keys, 8, .inl r_this_keys)), (a_this_reg, .inl (k_this_reg, 16, .inl (upd r_this_reg p2.toNatClampNeg (((((r_this_reg (p2 + (1 : Int32)).toNatClampNeg).toInt64) * ((r_this_reg p3.toNatClampNeg).toInt64)) >>> ((32 : Int32).toInt64 &&& 63)).toInt32))))] H := hP
                    have hD : va_D A [(a_this, oX8 a_this_bytes a_this_keys a_this_reg a_this_card a_this_filled a_this_taken a_this_line a_this_one a_this_two w_45), (a_this_bytes, .inl (k_this_bytes, 2048, .inl r_this_bytes)), (a_this_keys, .inl (k_this_keys, 8, .inl r_this_keys)), (a_this_reg, .inl (k_this_reg, 16, .inl (upd r_this_reg p2.toNatClampNeg (((((r_this_reg (p2 + (1 : Int32)).toNatClampNeg).toInt64) * ((r_this_reg p3.toNatClampNeg).toInt64)) >>> ((32 : Int32).toInt64 &&& 63)).toInt32))))] := hD
                    refine lv_aload_n hx hb dX8_doRegisters_255 rfl (lv_at hl 3 rfl) ?_
                    refine gf_X8_16 (v := .ref a_this_reg) hx hb hown ht hK hP 0 rfl rfl dX8_doRegisters_256 ?_
                    refine lv_iload_n hx hb dX8_doRegisters_259 rfl (lv_at hl 5 rfl) ?_
                    refine lv_iconst (v := 1) hx hb dX8_doRegisters_260 (by decide) ?_
                    refine lv_iadd hx hb dX8_doRegisters_261 ?_
                    refine lv_lload hx hb dX8_doRegisters_262 (lv_at hl 0 rfl) ?_
                    refine lv_l2i hx hb dX8_doRegisters_264 rfl ?_
                    have hi_57 := hs
                    refine va_iast hx hb hK hP hD hS 3 2 rfl rfl hi_57 dX8_doRegisters_265 (fun H locs hP hD hS => ?_)
                    have hP : va_P D vwCl [(a_this, oX8 a_this_bytes a_this_keys a_this_reg a_this_card a_this_filled a_this_taken a_this_line a_this_one a_this_two w_45), (a_this_bytes, .inl (k_this_bytes, 2048, .inl r_this_bytes)), (a_this_keys, .inl (k_this_keys, 8, .inl r_this_keys)), (a_this_reg, .inl (k_this_reg, 16, .inl (upd (upd r_this_reg p2.toNatClampNeg (((((r_this_reg (p2 + (1 : Int32)).toNatClampNeg).toInt64) * ((r_this_reg p3.toNatClampNeg).toInt64)) >>> ((32 : Int32).toInt64 &&& 63)).toInt32)) (p2 + (1 : Int32)).toNatClampNeg ((((r_this_reg (p2 + (1 : Int32)).toNatClampNeg).toInt64) * ((r_this_reg p3.toNatClampNeg).toInt64)).toInt32))))] H := hP
                    have hD : va_D A [(a_this, oX8 a_this_bytes a_this_keys a_this_reg a_this_card a_this_filled a_this_taken a_this_line a_this_one a_this_two w_45), (a_this_bytes, .inl (k_this_bytes, 2048, .inl r_this_bytes)), (a_this_keys, .inl (k_this_keys, 8, .inl r_this_keys)), (a_this_reg, .inl (k_this_reg, 16, .inl (upd (upd r_this_reg p2.toNatClampNeg (((((r_this_reg (p2 + (1 : Int32)).toNatClampNeg).toInt64) * ((r_this_reg p3.toNatClampNeg).toInt64)) >>> ((32 : Int32).toInt64 &&& 63)).toInt32)) (p2 + (1 : Int32)).toNatClampNeg ((((r_this_reg (p2 + (1 : Int32)).toNatClampNeg).toInt64) * ((r_this_reg p3.toNatClampNeg).toInt64)).toInt32))))] := hD
                    refine lv_goto (tgt := 276) hx hb dX8_doRegisters_266 (by decide) ?_
                    exact hQ (w_45, r_this_bytes, r_this_keys, (upd (upd r_this_reg p2.toNatClampNeg (((((r_this_reg (p2 + (1 : Int32)).toNatClampNeg).toInt64) * ((r_this_reg p3.toNatClampNeg).toInt64)) >>> ((32 : Int32).toInt64 &&& 63)).toInt32)) (p2 + (1 : Int32)).toNatClampNeg ((((r_this_reg (p2 + (1 : Int32)).toNatClampNeg).toInt64) * ((r_this_reg p3.toNatClampNeg).toInt64)).toInt32))) _ _ _ _ dX8_doRegisters_276 hF.symm hP hD hS
                · skip
                  rw [if_neg c_51] at hF
                  rw [if_neg c_51] at hs
                  refine lv_aload_n hx hb dX8_doRegisters_186 rfl (lv_at hl 2 rfl) ?_
                  refine gf_X8_16 (v := .ref a_this_reg) hx hb hown ht hK hP 0 rfl rfl dX8_doRegisters_187 ?_
                  refine lv_iload_n hx hb dX8_doRegisters_190 rfl (lv_at hl 4 rfl) ?_
                  refine lv_aload_n hx hb dX8_doRegisters_191 rfl (lv_at hl 2 rfl) ?_
                  refine lv_iload_n hx hb dX8_doRegisters_192 rfl (lv_at hl 3 rfl) ?_
                  refine lv_bipush (v := 26) hx hb dX8_doRegisters_193 (by decide) ?_
                  refine lv_icmp_ne (tgt := 208) hx hb dX8_doRegisters_195 (by decide) (fun c_58 => ?_) (fun c_58 => ?_)
                  · skip
                    rw [if_neg c_58] at hF
                    rw [if_neg c_58] at hs
                    refine lv_iload hx hb dX8_doRegisters_208 (lv_at hl 1 rfl) ?_
                    refine lv_i2l hx hb dX8_doRegisters_210 rfl ?_
                    refine lv_iload hx hb dX8_doRegisters_211 (lv_at hl 0 rfl) ?_
                    refine lv_i2l hx hb dX8_doRegisters_213 rfl ?_
                    refine lv_lsub hx hb dX8_doRegisters_214 ?_
                    refine q_Vi (rest := [.int p2, .ref a_this_reg]) (c_X8_summed l D a_this a_this_bytes a_this_keys a_this_reg a_this_card a_this_filled a_this_taken a_this_line a_this_one a_this_two w_45 (((r_this_reg p2.toNatClampNeg).toInt64) - ((r_this_reg p3.toNatClampNeg).toInt64))) cv_X8_summed hx hb hml hown ht hN hK hA hP hD hS hl.1 (km_X8_135) ⟨Nat.le_of_ble_eq_true rfl, Nat.le_of_ble_eq_true rfl⟩ rfl rfl [0] (by decide) rfl [] rfl (fun _ => rfl) (ci := 8) rfl rfl rfl rfl rfl (Nat.le_of_ble_eq_true rfl) dX8_doRegisters_215 ⟨Nat.zero_le _, Nat.zero_le _⟩ (fun r w_59 H locs hw hP hD hS => ?_)
                    obtain ⟨hw, hr⟩ := hw
                    subst hr
                    have hP : va_P D vwCl [(a_this, oX8 a_this_bytes a_this_keys a_this_reg a_this_card a_this_filled a_this_taken a_this_line a_this_one a_this_two w_59.2), (a_this_bytes, .inl (k_this_bytes, 2048, .inl r_this_bytes)), (a_this_keys, .inl (k_this_keys, 8, .inl r_this_keys)), (a_this_reg, .inl (k_this_reg, 16, .inl r_this_reg))] H := hP
                    have hD : va_D A [(a_this, oX8 a_this_bytes a_this_keys a_this_reg a_this_card a_this_filled a_this_taken a_this_line a_this_one a_this_two w_59.2), (a_this_bytes, .inl (k_this_bytes, 2048, .inl r_this_bytes)), (a_this_keys, .inl (k_this_keys, 8, .inl r_this_keys)), (a_this_reg, .inl (k_this_reg, 16, .inl r_this_reg))] := hD
                    rw [q_let_of hw] at hF
                    rw [q_let_of hw] at hs
                    have hi_60 := hs
                    refine va_iast hx hb hK hP hD hS 3 2 rfl rfl hi_60 dX8_doRegisters_218 (fun H locs hP hD hS => ?_)
                    have hP : va_P D vwCl [(a_this, oX8 a_this_bytes a_this_keys a_this_reg a_this_card a_this_filled a_this_taken a_this_line a_this_one a_this_two w_59.2), (a_this_bytes, .inl (k_this_bytes, 2048, .inl r_this_bytes)), (a_this_keys, .inl (k_this_keys, 8, .inl r_this_keys)), (a_this_reg, .inl (k_this_reg, 16, .inl (upd r_this_reg p2.toNatClampNeg w_59.1)))] H := hP
                    have hD : va_D A [(a_this, oX8 a_this_bytes a_this_keys a_this_reg a_this_card a_this_filled a_this_taken a_this_line a_this_one a_this_two w_59.2), (a_this_bytes, .inl (k_this_bytes, 2048, .inl r_this_bytes)), (a_this_keys, .inl (k_this_keys, 8, .inl r_this_keys)), (a_this_reg, .inl (k_this_reg, 16, .inl (upd r_this_reg p2.toNatClampNeg w_59.1)))] := hD
                    refine lv_goto (tgt := 276) hx hb dX8_doRegisters_219 (by decide) ?_
                    exact hQ (w_59.2, r_this_bytes, r_this_keys, (upd r_this_reg p2.toNatClampNeg w_59.1)) _ _ _ _ dX8_doRegisters_276 hF.symm hP hD hS
                  · skip
                    rw [if_pos c_58] at hF
                    rw [if_pos c_58] at hs
                    refine lv_iload hx hb dX8_doRegisters_198 (lv_at hl 1 rfl) ?_
                    refine lv_i2l hx hb dX8_doRegisters_200 rfl ?_
                    refine lv_iload hx hb dX8_doRegisters_201 (lv_at hl 0 rfl) ?_
                    refine lv_i2l hx hb dX8_doRegisters_203 rfl ?_
                    refine lv_ladd hx hb dX8_doRegisters_204 ?_
                    refine lv_goto (tgt := 215) hx hb dX8_doRegisters_205 (by decide) ?_
                    refine q_Vi (rest := [.int p2, .ref a_this_reg]) (c_X8_summed l D a_this a_this_bytes a_this_keys a_this_reg a_this_card a_this_filled a_this_taken a_this_line a_this_one a_this_two w_45 (((r_this_reg p2.toNatClampNeg).toInt64) + ((r_this_reg p3.toNatClampNeg).toInt64))) cv_X8_summed hx hb hml hown ht hN hK hA hP hD hS hl.1 (km_X8_135) ⟨Nat.le_of_ble_eq_true rfl, Nat.le_of_ble_eq_true rfl⟩ rfl rfl [0] (by decide) rfl [] rfl (fun _ => rfl) (ci := 8) rfl rfl rfl rfl rfl (Nat.le_of_ble_eq_true rfl) dX8_doRegisters_215 ⟨Nat.zero_le _, Nat.zero_le _⟩ (fun r w_61 H locs hw hP hD hS => ?_)
                    obtain ⟨hw, hr⟩ := hw
                    subst hr
                    have hP : va_P D vwCl [(a_this, oX8 a_this_bytes a_this_keys a_this_reg a_this_card a_this_filled a_this_taken a_this_line a_this_one a_this_two w_61.2), (a_this_bytes, .inl (k_this_bytes, 2048, .inl r_this_bytes)), (a_this_keys, .inl (k_this_keys, 8, .inl r_this_keys)), (a_this_reg, .inl (k_this_reg, 16, .inl r_this_reg))] H := hP
                    have hD : va_D A [(a_this, oX8 a_this_bytes a_this_keys a_this_reg a_this_card a_this_filled a_this_taken a_this_line a_this_one a_this_two w_61.2), (a_this_bytes, .inl (k_this_bytes, 2048, .inl r_this_bytes)), (a_this_keys, .inl (k_this_keys, 8, .inl r_this_keys)), (a_this_reg, .inl (k_this_reg, 16, .inl r_this_reg))] := hD
                    rw [q_let_of hw] at hF
                    rw [q_let_of hw] at hs
                    have hi_62 := hs
                    refine va_iast hx hb hK hP hD hS 3 2 rfl rfl hi_62 dX8_doRegisters_218 (fun H locs hP hD hS => ?_)
                    have hP : va_P D vwCl [(a_this, oX8 a_this_bytes a_this_keys a_this_reg a_this_card a_this_filled a_this_taken a_this_line a_this_one a_this_two w_61.2), (a_this_bytes, .inl (k_this_bytes, 2048, .inl r_this_bytes)), (a_this_keys, .inl (k_this_keys, 8, .inl r_this_keys)), (a_this_reg, .inl (k_this_reg, 16, .inl (upd r_this_reg p2.toNatClampNeg w_61.1)))] H := hP
                    have hD : va_D A [(a_this, oX8 a_this_bytes a_this_keys a_this_reg a_this_card a_this_filled a_this_taken a_this_line a_this_one a_this_two w_61.2), (a_this_bytes, .inl (k_this_bytes, 2048, .inl r_this_bytes)), (a_this_keys, .inl (k_this_keys, 8, .inl r_this_keys)), (a_this_reg, .inl (k_this_reg, 16, .inl (upd r_this_reg p2.toNatClampNeg w_61.1)))] := hD
                    refine lv_goto (tgt := 276) hx hb dX8_doRegisters_219 (by decide) ?_
                    exact hQ (w_61.2, r_this_bytes, r_this_keys, (upd r_this_reg p2.toNatClampNeg w_61.1)) _ _ _ _ dX8_doRegisters_276 hF.symm hP hD hS
              · skip
                rw [if_pos c_50] at hF
                rw [if_pos c_50] at hs
                refine lv_aload_n hx hb dX8_doRegisters_169 rfl (lv_at hl 2 rfl) ?_
                refine lv_iload hx hb dX8_doRegisters_170 (lv_at hl 1 rfl) ?_
                refine lv_iload hx hb dX8_doRegisters_172 (lv_at hl 0 rfl) ?_
                refine q_Vv (rest := []) (c_X8_compared l D a_this a_this_bytes a_this_keys a_this_reg a_this_card a_this_filled a_this_taken a_this_line a_this_one a_this_two w_45 (r_this_reg p2.toNatClampNeg) (r_this_reg p3.toNatClampNeg)) cv_X8_compared hx hb hml hown ht hN hK hA hP hD hS hl.1 (km_X8_131) ⟨Nat.le_of_ble_eq_true rfl, Nat.le_of_ble_eq_true rfl⟩ rfl rfl [0] (by decide) rfl [] rfl (fun _ => rfl) (ci := 8) rfl rfl rfl rfl rfl (Nat.le_of_ble_eq_true rfl) dX8_doRegisters_174 ⟨Nat.zero_le _, Nat.zero_le _⟩ (fun w_63 H locs hw hP hD hS => ?_)
                have hP : va_P D vwCl [(a_this, oX8 a_this_bytes a_this_keys a_this_reg a_this_card a_this_filled a_this_taken a_this_line a_this_one a_this_two w_63), (a_this_bytes, .inl (k_this_bytes, 2048, .inl r_this_bytes)), (a_this_keys, .inl (k_this_keys, 8, .inl r_this_keys)), (a_this_reg, .inl (k_this_reg, 16, .inl r_this_reg))] H := hP
                have hD : va_D A [(a_this, oX8 a_this_bytes a_this_keys a_this_reg a_this_card a_this_filled a_this_taken a_this_line a_this_one a_this_two w_63), (a_this_bytes, .inl (k_this_bytes, 2048, .inl r_this_bytes)), (a_this_keys, .inl (k_this_keys, 8, .inl r_this_keys)), (a_this_reg, .inl (k_this_reg, 16, .inl r_this_reg))] := hD
                rw [q_let_of hw] at hF
                refine lv_goto (tgt := 276) hx hb dX8_doRegisters_177 (by decide) ?_
                exact hQ (w_63, r_this_bytes, r_this_keys, r_this_reg) _ _ _ _ dX8_doRegisters_276 hF.symm hP hD hS
            · skip
              rw [if_pos c_49] at hF
              rw [if_pos c_49] at hs
              refine lv_aload_n hx hb dX8_doRegisters_152 rfl (lv_at hl 2 rfl) ?_
              refine gf_X8_16 (v := .ref a_this_reg) hx hb hown ht hK hP 0 rfl rfl dX8_doRegisters_153 ?_
              refine lv_iload_n hx hb dX8_doRegisters_156 rfl (lv_at hl 4 rfl) ?_
              refine lv_iload hx hb dX8_doRegisters_157 (lv_at hl 0 rfl) ?_
              have hi_64 := hs
              refine va_iast hx hb hK hP hD hS 3 2 rfl rfl hi_64 dX8_doRegisters_159 (fun H locs hP hD hS => ?_)
              have hP : va_P D vwCl [(a_this, oX8 a_this_bytes a_this_keys a_this_reg a_this_card a_this_filled a_this_taken a_this_line a_this_one a_this_two w_45), (a_this_bytes, .inl (k_this_bytes, 2048, .inl r_this_bytes)), (a_this_keys, .inl (k_this_keys, 8, .inl r_this_keys)), (a_this_reg, .inl (k_this_reg, 16, .inl (upd r_this_reg p2.toNatClampNeg (r_this_reg p3.toNatClampNeg))))] H := hP
              have hD : va_D A [(a_this, oX8 a_this_bytes a_this_keys a_this_reg a_this_card a_this_filled a_this_taken a_this_line a_this_one a_this_two w_45), (a_this_bytes, .inl (k_this_bytes, 2048, .inl r_this_bytes)), (a_this_keys, .inl (k_this_keys, 8, .inl r_this_keys)), (a_this_reg, .inl (k_this_reg, 16, .inl (upd r_this_reg p2.toNatClampNeg (r_this_reg p3.toNatClampNeg))))] := hD
              refine lv_goto (tgt := 276) hx hb dX8_doRegisters_160 (by decide) ?_
              exact hQ (w_45, r_this_bytes, r_this_keys, (upd r_this_reg p2.toNatClampNeg (r_this_reg p3.toNatClampNeg))) _ _ _ _ dX8_doRegisters_276 hF.symm hP hD hS
          · skip
            rw [if_neg c_48] at hF
            rw [if_neg c_48] at hs
            refine lv_aload_n hx hb dX8_doRegisters_76 rfl (lv_at hl 2 rfl) ?_
            refine gf_X8_16 (v := .ref a_this_reg) hx hb hown ht hK hP 0 rfl rfl dX8_doRegisters_77 ?_
            refine lv_iload_n hx hb dX8_doRegisters_80 rfl (lv_at hl 4 rfl) ?_
            refine lv_iload_n hx hb dX8_doRegisters_81 rfl (lv_at hl 3 rfl) ?_
            refine lv_bipush (v := 18) hx hb dX8_doRegisters_82 (by decide) ?_
            refine lv_icmp_ne (tgt := 92) hx hb dX8_doRegisters_84 (by decide) (fun c_65 => ?_) (fun c_65 => ?_)
            · skip
              rw [if_neg c_65] at hF
              rw [if_neg c_65] at hs
              refine lv_aload_n hx hb dX8_doRegisters_92 rfl (lv_at hl 2 rfl) ?_
              refine lv_iload_n hx hb dX8_doRegisters_93 rfl (lv_at hl 3 rfl) ?_
              refine lv_bipush (v := 20) hx hb dX8_doRegisters_94 (by decide) ?_
              refine lv_icmp_ne (tgt := 107) hx hb dX8_doRegisters_96 (by decide) (fun c_66 => ?_) (fun c_66 => ?_)
              · skip
                rw [if_neg c_66] at hF
                rw [if_neg c_66] at hs
                refine lv_iload_n hx hb dX8_doRegisters_107 rfl (lv_at hl 3 rfl) ?_
                refine lv_bipush (v := 22) hx hb dX8_doRegisters_108 (by decide) ?_
                refine lv_icmp_ne (tgt := 121) hx hb dX8_doRegisters_110 (by decide) (fun c_67 => ?_) (fun c_67 => ?_)
                · skip
                  rw [if_neg c_67] at hF
                  rw [if_neg c_67] at hs
                  refine lv_iload hx hb dX8_doRegisters_121 (lv_at hl 1 rfl) ?_
                  refine lv_iload hx hb dX8_doRegisters_123 (lv_at hl 0 rfl) ?_
                  refine lv_ixor hx hb dX8_doRegisters_125 ?_
                  refine q_Vi (rest := [.int p2, .ref a_this_reg]) (c_X8_logic l D a_this a_this_bytes a_this_keys a_this_reg a_this_card a_this_filled a_this_taken a_this_line a_this_one a_this_two w_45 ((r_this_reg p2.toNatClampNeg) ^^^ (r_this_reg p3.toNatClampNeg))) cv_X8_logic hx hb hml hown ht hN hK hA hP hD hS hl.1 (km_X8_128) ⟨Nat.le_of_ble_eq_true rfl, Nat.le_of_ble_eq_true rfl⟩ rfl rfl [0] (by decide) rfl [] rfl (fun _ => rfl) (ci := 8) rfl rfl rfl rfl rfl (Nat.le_of_ble_eq_true rfl) dX8_doRegisters_126 ⟨Nat.zero_le _, Nat.zero_le _⟩ (fun r w_68 H locs hw hP hD hS => ?_)
                  obtain ⟨hw, hr⟩ := hw
                  subst hr
                  have hP : va_P D vwCl [(a_this, oX8 a_this_bytes a_this_keys a_this_reg a_this_card a_this_filled a_this_taken a_this_line a_this_one a_this_two w_68.2), (a_this_bytes, .inl (k_this_bytes, 2048, .inl r_this_bytes)), (a_this_keys, .inl (k_this_keys, 8, .inl r_this_keys)), (a_this_reg, .inl (k_this_reg, 16, .inl r_this_reg))] H := hP
                  have hD : va_D A [(a_this, oX8 a_this_bytes a_this_keys a_this_reg a_this_card a_this_filled a_this_taken a_this_line a_this_one a_this_two w_68.2), (a_this_bytes, .inl (k_this_bytes, 2048, .inl r_this_bytes)), (a_this_keys, .inl (k_this_keys, 8, .inl r_this_keys)), (a_this_reg, .inl (k_this_reg, 16, .inl r_this_reg))] := hD
                  rw [q_let_of hw] at hF
                  rw [q_let_of hw] at hs
                  have hi_69 := hs
                  refine va_iast hx hb hK hP hD hS 3 2 rfl rfl hi_69 dX8_doRegisters_129 (fun H locs hP hD hS => ?_)
                  have hP : va_P D vwCl [(a_this, oX8 a_this_bytes a_this_keys a_this_reg a_this_card a_this_filled a_this_taken a_this_line a_this_one a_this_two w_68.2), (a_this_bytes, .inl (k_this_bytes, 2048, .inl r_this_bytes)), (a_this_keys, .inl (k_this_keys, 8, .inl r_this_keys)), (a_this_reg, .inl (k_this_reg, 16, .inl (upd r_this_reg p2.toNatClampNeg w_68.1)))] H := hP
                  have hD : va_D A [(a_this, oX8 a_this_bytes a_this_keys a_this_reg a_this_card a_this_filled a_this_taken a_this_line a_this_one a_this_two w_68.2), (a_this_bytes, .inl (k_this_bytes, 2048, .inl r_this_bytes)), (a_this_keys, .inl (k_this_keys, 8, .inl r_this_keys)), (a_this_reg, .inl (k_this_reg, 16, .inl (upd r_this_reg p2.toNatClampNeg w_68.1)))] := hD
                  refine lv_iload_n hx hb dX8_doRegisters_130 rfl (lv_at hl 3 rfl) ?_
                  refine lv_bipush (v := 18) hx hb dX8_doRegisters_131 (by decide) ?_
                  refine lv_icmp_ne (tgt := 276) hx hb dX8_doRegisters_133 (by decide) (fun c_70 => ?_) (fun c_70 => ?_)
                  · skip
                    rw [if_neg c_70] at hF
                    exact hQ (w_68.2, r_this_bytes, r_this_keys, (upd r_this_reg p2.toNatClampNeg w_68.1)) _ _ _ _ dX8_doRegisters_276 hF.symm hP hD hS
                  · skip
                    rw [if_pos c_70] at hF
                    refine lv_aload_n hx hb dX8_doRegisters_136 rfl (lv_at hl 2 rfl) ?_
                    refine lv_iload hx hb dX8_doRegisters_137 (lv_at hl 0 rfl) ?_
                    refine lv_i2l hx hb dX8_doRegisters_139 rfl ?_
                    refine q_Vv (rest := []) (c_X8_sign l D a_this a_this_bytes a_this_keys a_this_reg a_this_card a_this_filled a_this_taken a_this_line a_this_one a_this_two w_68.2 ((r_this_reg p3.toNatClampNeg).toInt64)) cv_X8_sign hx hb hml hown ht hN hK hA hP hD hS hl.1 (km_X8_120) ⟨Nat.le_of_ble_eq_true rfl, Nat.le_of_ble_eq_true rfl⟩ rfl rfl [0] (by decide) rfl [] rfl (fun _ => rfl) (ci := 8) rfl rfl rfl rfl rfl (Nat.le_of_ble_eq_true rfl) dX8_doRegisters_140 ⟨Nat.zero_le _, Nat.zero_le _⟩ (fun w_71 H locs hw hP hD hS => ?_)
                    have hP : va_P D vwCl [(a_this, oX8 a_this_bytes a_this_keys a_this_reg a_this_card a_this_filled a_this_taken a_this_line a_this_one a_this_two w_71), (a_this_bytes, .inl (k_this_bytes, 2048, .inl r_this_bytes)), (a_this_keys, .inl (k_this_keys, 8, .inl r_this_keys)), (a_this_reg, .inl (k_this_reg, 16, .inl (upd r_this_reg p2.toNatClampNeg w_68.1)))] H := hP
                    have hD : va_D A [(a_this, oX8 a_this_bytes a_this_keys a_this_reg a_this_card a_this_filled a_this_taken a_this_line a_this_one a_this_two w_71), (a_this_bytes, .inl (k_this_bytes, 2048, .inl r_this_bytes)), (a_this_keys, .inl (k_this_keys, 8, .inl r_this_keys)), (a_this_reg, .inl (k_this_reg, 16, .inl (upd r_this_reg p2.toNatClampNeg w_68.1)))] := hD
                    rw [q_let_of hw] at hF
                    refine lv_goto (tgt := 276) hx hb dX8_doRegisters_143 (by decide) ?_
                    exact hQ (w_71, r_this_bytes, r_this_keys, (upd r_this_reg p2.toNatClampNeg w_68.1)) _ _ _ _ dX8_doRegisters_276 hF.symm hP hD hS
                · skip
                  rw [if_pos c_67] at hF
                  rw [if_pos c_67] at hs
                  refine lv_iload hx hb dX8_doRegisters_113 (lv_at hl 1 rfl) ?_
                  refine lv_iload hx hb dX8_doRegisters_115 (lv_at hl 0 rfl) ?_
                  refine lv_ior hx hb dX8_doRegisters_117 ?_
                  refine lv_goto (tgt := 126) hx hb dX8_doRegisters_118 (by decide) ?_
                  refine q_Vi (rest := [.int p2, .ref a_this_reg]) (c_X8_logic l D a_this a_this_bytes a_this_keys a_this_reg a_this_card a_this_filled a_this_taken a_this_line a_this_one a_this_two w_45 ((r_this_reg p2.toNatClampNeg) ||| (r_this_reg p3.toNatClampNeg))) cv_X8_logic hx hb hml hown ht hN hK hA hP hD hS hl.1 (km_X8_128) ⟨Nat.le_of_ble_eq_true rfl, Nat.le_of_ble_eq_true rfl⟩ rfl rfl [0] (by decide) rfl [] rfl (fun _ => rfl) (ci := 8) rfl rfl rfl rfl rfl (Nat.le_of_ble_eq_true rfl) dX8_doRegisters_126 ⟨Nat.zero_le _, Nat.zero_le _⟩ (fun r w_72 H locs hw hP hD hS => ?_)
                  obtain ⟨hw, hr⟩ := hw
                  subst hr
                  have hP : va_P D vwCl [(a_this, oX8 a_this_bytes a_this_keys a_this_reg a_this_card a_this_filled a_this_taken a_this_line a_this_one a_this_two w_72.2), (a_this_bytes, .inl (k_this_bytes, 2048, .inl r_this_bytes)), (a_this_keys, .inl (k_this_keys, 8, .inl r_this_keys)), (a_this_reg, .inl (k_this_reg, 16, .inl r_this_reg))] H := hP
                  have hD : va_D A [(a_this, oX8 a_this_bytes a_this_keys a_this_reg a_this_card a_this_filled a_this_taken a_this_line a_this_one a_this_two w_72.2), (a_this_bytes, .inl (k_this_bytes, 2048, .inl r_this_bytes)), (a_this_keys, .inl (k_this_keys, 8, .inl r_this_keys)), (a_this_reg, .inl (k_this_reg, 16, .inl r_this_reg))] := hD
                  rw [q_let_of hw] at hF
                  rw [q_let_of hw] at hs
                  have hi_73 := hs
                  refine va_iast hx hb hK hP hD hS 3 2 rfl rfl hi_73 dX8_doRegisters_129 (fun H locs hP hD hS => ?_)
                  have hP : va_P D vwCl [(a_this, oX8 a_this_bytes a_this_keys a_this_reg a_this_card a_this_filled a_this_taken a_this_line a_this_one a_this_two w_72.2), (a_this_bytes, .inl (k_this_bytes, 2048, .inl r_this_bytes)), (a_this_keys, .inl (k_this_keys, 8, .inl r_this_keys)), (a_this_reg, .inl (k_this_reg, 16, .inl (upd r_this_reg p2.toNatClampNeg w_72.1)))] H := hP
                  have hD : va_D A [(a_this, oX8 a_this_bytes a_this_keys a_this_reg a_this_card a_this_filled a_this_taken a_this_line a_this_one a_this_two w_72.2), (a_this_bytes, .inl (k_this_bytes, 2048, .inl r_this_bytes)), (a_this_keys, .inl (k_this_keys, 8, .inl r_this_keys)), (a_this_reg, .inl (k_this_reg, 16, .inl (upd r_this_reg p2.toNatClampNeg w_72.1)))] := hD
                  refine lv_iload_n hx hb dX8_doRegisters_130 rfl (lv_at hl 3 rfl) ?_
                  refine lv_bipush (v := 18) hx hb dX8_doRegisters_131 (by decide) ?_
                  refine lv_icmp_ne (tgt := 276) hx hb dX8_doRegisters_133 (by decide) (fun c_74 => ?_) (fun c_74 => ?_)
                  · skip
                    rw [if_neg c_74] at hF
                    exact hQ (w_72.2, r_this_bytes, r_this_keys, (upd r_this_reg p2.toNatClampNeg w_72.1)) _ _ _ _ dX8_doRegisters_276 hF.symm hP hD hS
                  · skip
                    rw [if_pos c_74] at hF
                    refine lv_aload_n hx hb dX8_doRegisters_136 rfl (lv_at hl 2 rfl) ?_
                    refine lv_iload hx hb dX8_doRegisters_137 (lv_at hl 0 rfl) ?_
                    refine lv_i2l hx hb dX8_doRegisters_139 rfl ?_
                    refine q_Vv (rest := []) (c_X8_sign l D a_this a_this_bytes a_this_keys a_this_reg a_this_card a_this_filled a_this_taken a_this_line a_this_one a_this_two w_72.2 ((r_this_reg p3.toNatClampNeg).toInt64)) cv_X8_sign hx hb hml hown ht hN hK hA hP hD hS hl.1 (km_X8_120) ⟨Nat.le_of_ble_eq_true rfl, Nat.le_of_ble_eq_true rfl⟩ rfl rfl [0] (by decide) rfl [] rfl (fun _ => rfl) (ci := 8) rfl rfl rfl rfl rfl (Nat.le_of_ble_eq_true rfl) dX8_doRegisters_140 ⟨Nat.zero_le _, Nat.zero_le _⟩ (fun w_75 H locs hw hP hD hS => ?_)
                    have hP : va_P D vwCl [(a_this, oX8 a_this_bytes a_this_keys a_this_reg a_this_card a_this_filled a_this_taken a_this_line a_this_one a_this_two w_75), (a_this_bytes, .inl (k_this_bytes, 2048, .inl r_this_bytes)), (a_this_keys, .inl (k_this_keys, 8, .inl r_this_keys)), (a_this_reg, .inl (k_this_reg, 16, .inl (upd r_this_reg p2.toNatClampNeg w_72.1)))] H := hP
                    have hD : va_D A [(a_this, oX8 a_this_bytes a_this_keys a_this_reg a_this_card a_this_filled a_this_taken a_this_line a_this_one a_this_two w_75), (a_this_bytes, .inl (k_this_bytes, 2048, .inl r_this_bytes)), (a_this_keys, .inl (k_this_keys, 8, .inl r_this_keys)), (a_this_reg, .inl (k_this_reg, 16, .inl (upd r_this_reg p2.toNatClampNeg w_72.1)))] := hD
                    rw [q_let_of hw] at hF
                    refine lv_goto (tgt := 276) hx hb dX8_doRegisters_143 (by decide) ?_
                    exact hQ (w_75, r_this_bytes, r_this_keys, (upd r_this_reg p2.toNatClampNeg w_72.1)) _ _ _ _ dX8_doRegisters_276 hF.symm hP hD hS
              · skip
                rw [if_pos c_66] at hF
                rw [if_pos c_66] at hs
                refine lv_iload hx hb dX8_doRegisters_99 (lv_at hl 1 rfl) ?_
                refine lv_iload hx hb dX8_doRegisters_101 (lv_at hl 0 rfl) ?_
                refine lv_iand hx hb dX8_doRegisters_103 ?_
                refine lv_goto (tgt := 126) hx hb dX8_doRegisters_104 (by decide) ?_
                refine q_Vi (rest := [.int p2, .ref a_this_reg]) (c_X8_logic l D a_this a_this_bytes a_this_keys a_this_reg a_this_card a_this_filled a_this_taken a_this_line a_this_one a_this_two w_45 ((r_this_reg p2.toNatClampNeg) &&& (r_this_reg p3.toNatClampNeg))) cv_X8_logic hx hb hml hown ht hN hK hA hP hD hS hl.1 (km_X8_128) ⟨Nat.le_of_ble_eq_true rfl, Nat.le_of_ble_eq_true rfl⟩ rfl rfl [0] (by decide) rfl [] rfl (fun _ => rfl) (ci := 8) rfl rfl rfl rfl rfl (Nat.le_of_ble_eq_true rfl) dX8_doRegisters_126 ⟨Nat.zero_le _, Nat.zero_le _⟩ (fun r w_76 H locs hw hP hD hS => ?_)
                obtain ⟨hw, hr⟩ := hw
                subst hr
                have hP : va_P D vwCl [(a_this, oX8 a_this_bytes a_this_keys a_this_reg a_this_card a_this_filled a_this_taken a_this_line a_this_one a_this_two w_76.2), (a_this_bytes, .inl (k_this_bytes, 2048, .inl r_this_bytes)), (a_this_keys, .inl (k_this_keys, 8, .inl r_this_keys)), (a_this_reg, .inl (k_this_reg, 16, .inl r_this_reg))] H := hP
                have hD : va_D A [(a_this, oX8 a_this_bytes a_this_keys a_this_reg a_this_card a_this_filled a_this_taken a_this_line a_this_one a_this_two w_76.2), (a_this_bytes, .inl (k_this_bytes, 2048, .inl r_this_bytes)), (a_this_keys, .inl (k_this_keys, 8, .inl r_this_keys)), (a_this_reg, .inl (k_this_reg, 16, .inl r_this_reg))] := hD
                rw [q_let_of hw] at hF
                rw [q_let_of hw] at hs
                have hi_77 := hs
                refine va_iast hx hb hK hP hD hS 3 2 rfl rfl hi_77 dX8_doRegisters_129 (fun H locs hP hD hS => ?_)
                have hP : va_P D vwCl [(a_this, oX8 a_this_bytes a_this_keys a_this_reg a_this_card a_this_filled a_this_taken a_this_line a_this_one a_this_two w_76.2), (a_this_bytes, .inl (k_this_bytes, 2048, .inl r_this_bytes)), (a_this_keys, .inl (k_this_keys, 8, .inl r_this_keys)), (a_this_reg, .inl (k_this_reg, 16, .inl (upd r_this_reg p2.toNatClampNeg w_76.1)))] H := hP
                have hD : va_D A [(a_this, oX8 a_this_bytes a_this_keys a_this_reg a_this_card a_this_filled a_this_taken a_this_line a_this_one a_this_two w_76.2), (a_this_bytes, .inl (k_this_bytes, 2048, .inl r_this_bytes)), (a_this_keys, .inl (k_this_keys, 8, .inl r_this_keys)), (a_this_reg, .inl (k_this_reg, 16, .inl (upd r_this_reg p2.toNatClampNeg w_76.1)))] := hD
                refine lv_iload_n hx hb dX8_doRegisters_130 rfl (lv_at hl 3 rfl) ?_
                refine lv_bipush (v := 18) hx hb dX8_doRegisters_131 (by decide) ?_
                refine lv_icmp_ne (tgt := 276) hx hb dX8_doRegisters_133 (by decide) (fun c_78 => ?_) (fun c_78 => ?_)
                · skip
                  rw [if_neg c_78] at hF
                  exact hQ (w_76.2, r_this_bytes, r_this_keys, (upd r_this_reg p2.toNatClampNeg w_76.1)) _ _ _ _ dX8_doRegisters_276 hF.symm hP hD hS
                · skip
                  rw [if_pos c_78] at hF
                  refine lv_aload_n hx hb dX8_doRegisters_136 rfl (lv_at hl 2 rfl) ?_
                  refine lv_iload hx hb dX8_doRegisters_137 (lv_at hl 0 rfl) ?_
                  refine lv_i2l hx hb dX8_doRegisters_139 rfl ?_
                  refine q_Vv (rest := []) (c_X8_sign l D a_this a_this_bytes a_this_keys a_this_reg a_this_card a_this_filled a_this_taken a_this_line a_this_one a_this_two w_76.2 ((r_this_reg p3.toNatClampNeg).toInt64)) cv_X8_sign hx hb hml hown ht hN hK hA hP hD hS hl.1 (km_X8_120) ⟨Nat.le_of_ble_eq_true rfl, Nat.le_of_ble_eq_true rfl⟩ rfl rfl [0] (by decide) rfl [] rfl (fun _ => rfl) (ci := 8) rfl rfl rfl rfl rfl (Nat.le_of_ble_eq_true rfl) dX8_doRegisters_140 ⟨Nat.zero_le _, Nat.zero_le _⟩ (fun w_79 H locs hw hP hD hS => ?_)
                  have hP : va_P D vwCl [(a_this, oX8 a_this_bytes a_this_keys a_this_reg a_this_card a_this_filled a_this_taken a_this_line a_this_one a_this_two w_79), (a_this_bytes, .inl (k_this_bytes, 2048, .inl r_this_bytes)), (a_this_keys, .inl (k_this_keys, 8, .inl r_this_keys)), (a_this_reg, .inl (k_this_reg, 16, .inl (upd r_this_reg p2.toNatClampNeg w_76.1)))] H := hP
                  have hD : va_D A [(a_this, oX8 a_this_bytes a_this_keys a_this_reg a_this_card a_this_filled a_this_taken a_this_line a_this_one a_this_two w_79), (a_this_bytes, .inl (k_this_bytes, 2048, .inl r_this_bytes)), (a_this_keys, .inl (k_this_keys, 8, .inl r_this_keys)), (a_this_reg, .inl (k_this_reg, 16, .inl (upd r_this_reg p2.toNatClampNeg w_76.1)))] := hD
                  rw [q_let_of hw] at hF
                  refine lv_goto (tgt := 276) hx hb dX8_doRegisters_143 (by decide) ?_
                  exact hQ (w_79, r_this_bytes, r_this_keys, (upd r_this_reg p2.toNatClampNeg w_76.1)) _ _ _ _ dX8_doRegisters_276 hF.symm hP hD hS
            · skip
              rw [if_pos c_65] at hF
              rw [if_pos c_65] at hs
              refine lv_iload hx hb dX8_doRegisters_87 (lv_at hl 0 rfl) ?_
              refine lv_goto (tgt := 129) hx hb dX8_doRegisters_89 (by decide) ?_
              have hi_80 := hs
              refine va_iast hx hb hK hP hD hS 3 2 rfl rfl hi_80 dX8_doRegisters_129 (fun H locs hP hD hS => ?_)
              have hP : va_P D vwCl [(a_this, oX8 a_this_bytes a_this_keys a_this_reg a_this_card a_this_filled a_this_taken a_this_line a_this_one a_this_two w_45), (a_this_bytes, .inl (k_this_bytes, 2048, .inl r_this_bytes)), (a_this_keys, .inl (k_this_keys, 8, .inl r_this_keys)), (a_this_reg, .inl (k_this_reg, 16, .inl (upd r_this_reg p2.toNatClampNeg (r_this_reg p3.toNatClampNeg))))] H := hP
              have hD : va_D A [(a_this, oX8 a_this_bytes a_this_keys a_this_reg a_this_card a_this_filled a_this_taken a_this_line a_this_one a_this_two w_45), (a_this_bytes, .inl (k_this_bytes, 2048, .inl r_this_bytes)), (a_this_keys, .inl (k_this_keys, 8, .inl r_this_keys)), (a_this_reg, .inl (k_this_reg, 16, .inl (upd r_this_reg p2.toNatClampNeg (r_this_reg p3.toNatClampNeg))))] := hD
              refine lv_iload_n hx hb dX8_doRegisters_130 rfl (lv_at hl 3 rfl) ?_
              refine lv_bipush (v := 18) hx hb dX8_doRegisters_131 (by decide) ?_
              refine lv_icmp_ne (tgt := 276) hx hb dX8_doRegisters_133 (by decide) (fun c_81 => ?_) (fun c_81 => ?_)
              · skip
                rw [if_neg c_81] at hF
                exact hQ (w_45, r_this_bytes, r_this_keys, (upd r_this_reg p2.toNatClampNeg (r_this_reg p3.toNatClampNeg))) _ _ _ _ dX8_doRegisters_276 hF.symm hP hD hS
              · skip
                rw [if_pos c_81] at hF
                refine lv_aload_n hx hb dX8_doRegisters_136 rfl (lv_at hl 2 rfl) ?_
                refine lv_iload hx hb dX8_doRegisters_137 (lv_at hl 0 rfl) ?_
                refine lv_i2l hx hb dX8_doRegisters_139 rfl ?_
                refine q_Vv (rest := []) (c_X8_sign l D a_this a_this_bytes a_this_keys a_this_reg a_this_card a_this_filled a_this_taken a_this_line a_this_one a_this_two w_45 ((r_this_reg p3.toNatClampNeg).toInt64)) cv_X8_sign hx hb hml hown ht hN hK hA hP hD hS hl.1 (km_X8_120) ⟨Nat.le_of_ble_eq_true rfl, Nat.le_of_ble_eq_true rfl⟩ rfl rfl [0] (by decide) rfl [] rfl (fun _ => rfl) (ci := 8) rfl rfl rfl rfl rfl (Nat.le_of_ble_eq_true rfl) dX8_doRegisters_140 ⟨Nat.zero_le _, Nat.zero_le _⟩ (fun w_82 H locs hw hP hD hS => ?_)
                have hP : va_P D vwCl [(a_this, oX8 a_this_bytes a_this_keys a_this_reg a_this_card a_this_filled a_this_taken a_this_line a_this_one a_this_two w_82), (a_this_bytes, .inl (k_this_bytes, 2048, .inl r_this_bytes)), (a_this_keys, .inl (k_this_keys, 8, .inl r_this_keys)), (a_this_reg, .inl (k_this_reg, 16, .inl (upd r_this_reg p2.toNatClampNeg (r_this_reg p3.toNatClampNeg))))] H := hP
                have hD : va_D A [(a_this, oX8 a_this_bytes a_this_keys a_this_reg a_this_card a_this_filled a_this_taken a_this_line a_this_one a_this_two w_82), (a_this_bytes, .inl (k_this_bytes, 2048, .inl r_this_bytes)), (a_this_keys, .inl (k_this_keys, 8, .inl r_this_keys)), (a_this_reg, .inl (k_this_reg, 16, .inl (upd r_this_reg p2.toNatClampNeg (r_this_reg p3.toNatClampNeg))))] := hD
                rw [q_let_of hw] at hF
                refine lv_goto (tgt := 276) hx hb dX8_doRegisters_143 (by decide) ?_
                exact hQ (w_82, r_this_bytes, r_this_keys, (upd r_this_reg p2.toNatClampNeg (r_this_reg p3.toNatClampNeg))) _ _ _ _ dX8_doRegisters_276 hF.symm hP hD hS
        · skip
          rw [if_neg c_47] at hF
          rw [if_neg c_47] at hs
          refine lv_aload_n hx hb dX8_doRegisters_60 rfl (lv_at hl 2 rfl) ?_
          refine lv_iload_n hx hb dX8_doRegisters_61 rfl (lv_at hl 3 rfl) ?_
          refine lv_iload_n hx hb dX8_doRegisters_62 rfl (lv_at hl 4 rfl) ?_
          refine lv_iload_n hx hb dX8_doRegisters_63 rfl (lv_at hl 5 rfl) ?_
          have hi_83 := hs
          refine q_Vv (rest := []) (c_X8_control l D a_this a_this_bytes a_this_keys a_this_reg a_this_card a_this_filled a_this_taken a_this_line a_this_one a_this_two k_this_bytes k_this_keys k_this_reg w_45 r_this_bytes r_this_keys r_this_reg p1 p2 p3 hi_83) cv_X8_control hx hb hml hown ht hN hK hA hP hD hS hl.1 (km_X8_125) ⟨Nat.le_of_ble_eq_true rfl, Nat.le_of_ble_eq_true rfl⟩ rfl rfl [0, 1, 2, 3] (by decide) rfl [0, 1, 2] rfl (fun _ => rfl) (ci := 8) rfl rfl rfl rfl rfl (Nat.le_of_ble_eq_true rfl) dX8_doRegisters_64 ⟨Nat.zero_le _, Nat.zero_le _⟩ (fun w_84 H locs hw hP hD hS => ?_)
          have hP : va_P D vwCl [(a_this, oX8 a_this_bytes a_this_keys a_this_reg a_this_card a_this_filled a_this_taken a_this_line a_this_one a_this_two w_84.1), (a_this_bytes, .inl (k_this_bytes, 2048, .inl w_84.2.1)), (a_this_keys, .inl (k_this_keys, 8, .inl w_84.2.2.1)), (a_this_reg, .inl (k_this_reg, 16, .inl w_84.2.2.2))] H := hP
          have hD : va_D A [(a_this, oX8 a_this_bytes a_this_keys a_this_reg a_this_card a_this_filled a_this_taken a_this_line a_this_one a_this_two w_84.1), (a_this_bytes, .inl (k_this_bytes, 2048, .inl w_84.2.1)), (a_this_keys, .inl (k_this_keys, 8, .inl w_84.2.2.1)), (a_this_reg, .inl (k_this_reg, 16, .inl w_84.2.2.2))] := hD
          rw [q_let_of hw] at hF
          refine lv_goto (tgt := 276) hx hb dX8_doRegisters_67 (by decide) ?_
          exact hQ (w_84.1, w_84.2.1, w_84.2.2.1, w_84.2.2.2) _ _ _ _ dX8_doRegisters_276 hF.symm hP hD hS
      · skip
        rw [if_neg c_46] at hF
        rw [if_neg c_46] at hs
        exact hQ (w_45, r_this_bytes, r_this_keys, r_this_reg) _ _ _ _ dX8_doRegisters_53 hF.symm hP hD hS
  · skip
    rw [if_neg c_3] at hF
    rw [if_neg c_3] at hs
    refine lv_iload_n hx hb dX8_doRegisters_23 rfl (lv_at hl 3 rfl) ?_
    refine lv_bipush (v := 29) hx hb dX8_doRegisters_24 (by decide) ?_
    refine lv_icmp_ne (tgt := 40) hx hb dX8_doRegisters_26 (by decide) (fun c_85 => ?_) (fun c_85 => ?_)
    · skip
      rw [if_neg c_85] at hF
      rw [if_neg c_85] at hs
      refine lv_iconst (v := 0) hx hb dX8_doRegisters_40 (by decide) ?_
      refine lv_bipush (v := 6) hx hb dX8_doRegisters_41 (by decide) ?_
      refine q_Vv (rest := []) (c_X8_wrong l D a_this a_this_bytes a_this_keys a_this_reg a_this_card a_this_filled a_this_taken a_this_line a_this_one a_this_two o_this false 6) cv_X8_wrong hx hb hml hown ht hN hK hA hP hD hS hl.1 (km_X8_42) ⟨Nat.le_of_ble_eq_true rfl, Nat.le_of_ble_eq_true rfl⟩ rfl rfl [0] (by decide) rfl [] rfl (fun _ => rfl) (ci := 8) rfl rfl rfl rfl rfl (Nat.le_of_ble_eq_true rfl) dX8_doRegisters_43 ⟨Nat.zero_le _, Nat.zero_le _⟩ (fun w_86 H locs hw hP hD hS => ?_)
      have hP : va_P D vwCl [(a_this, oX8 a_this_bytes a_this_keys a_this_reg a_this_card a_this_filled a_this_taken a_this_line a_this_one a_this_two w_86), (a_this_bytes, .inl (k_this_bytes, 2048, .inl r_this_bytes)), (a_this_keys, .inl (k_this_keys, 8, .inl r_this_keys)), (a_this_reg, .inl (k_this_reg, 16, .inl r_this_reg))] H := hP
      have hD : va_D A [(a_this, oX8 a_this_bytes a_this_keys a_this_reg a_this_card a_this_filled a_this_taken a_this_line a_this_one a_this_two w_86), (a_this_bytes, .inl (k_this_bytes, 2048, .inl r_this_bytes)), (a_this_keys, .inl (k_this_keys, 8, .inl r_this_keys)), (a_this_reg, .inl (k_this_reg, 16, .inl r_this_reg))] := hD
      rw [q_let_of hw] at hF
      rw [q_let_of hw] at hs
      refine lv_aload_n hx hb dX8_doRegisters_46 rfl (lv_at hl 2 rfl) ?_
      refine gf_X8_38 (v := .int w_86.2.2.2.2.2.2.2.2.1) hx hb hown ht hK hP 0 rfl rfl dX8_doRegisters_47 ?_
      refine lv_if_le (tgt := 54) hx hb dX8_doRegisters_50 (by decide) (fun c_87 => ?_) (fun c_87 => ?_)
      · skip
        rw [if_pos c_87] at hF
        rw [if_pos c_87] at hs
        refine lv_iload_n hx hb dX8_doRegisters_54 rfl (lv_at hl 3 rfl) ?_
        refine lv_bipush (v := 16) hx hb dX8_doRegisters_55 (by decide) ?_
        refine lv_icmp_ge (tgt := 70) hx hb dX8_doRegisters_57 (by decide) (fun c_88 => ?_) (fun c_88 => ?_)
        · skip
          rw [if_pos c_88] at hF
          rw [if_pos c_88] at hs
          refine lv_iload_n hx hb dX8_doRegisters_70 rfl (lv_at hl 3 rfl) ?_
          refine lv_bipush (v := 24) hx hb dX8_doRegisters_71 (by decide) ?_
          refine lv_icmp_ge (tgt := 146) hx hb dX8_doRegisters_73 (by decide) (fun c_89 => ?_) (fun c_89 => ?_)
          · skip
            rw [if_pos c_89] at hF
            rw [if_pos c_89] at hs
            refine lv_iload_n hx hb dX8_doRegisters_146 rfl (lv_at hl 3 rfl) ?_
            refine lv_bipush (v := 24) hx hb dX8_doRegisters_147 (by decide) ?_
            refine lv_icmp_ne (tgt := 163) hx hb dX8_doRegisters_149 (by decide) (fun c_90 => ?_) (fun c_90 => ?_)
            · skip
              rw [if_neg c_90] at hF
              rw [if_neg c_90] at hs
              refine lv_iload_n hx hb dX8_doRegisters_163 rfl (lv_at hl 3 rfl) ?_
              refine lv_bipush (v := 25) hx hb dX8_doRegisters_164 (by decide) ?_
              refine lv_icmp_ne (tgt := 180) hx hb dX8_doRegisters_166 (by decide) (fun c_91 => ?_) (fun c_91 => ?_)
              · skip
                rw [if_neg c_91] at hF
                rw [if_neg c_91] at hs
                refine lv_iload_n hx hb dX8_doRegisters_180 rfl (lv_at hl 3 rfl) ?_
                refine lv_bipush (v := 28) hx hb dX8_doRegisters_181 (by decide) ?_
                refine lv_icmp_ge (tgt := 222) hx hb dX8_doRegisters_183 (by decide) (fun c_92 => ?_) (fun c_92 => ?_)
                · skip
                  rw [if_pos c_92] at hF
                  rw [if_pos c_92] at hs
                  refine lv_iload_n hx hb dX8_doRegisters_222 rfl (lv_at hl 3 rfl) ?_
                  refine lv_bipush (v := 28) hx hb dX8_doRegisters_223 (by decide) ?_
                  refine lv_icmp_ne (tgt := 269) hx hb dX8_doRegisters_225 (by decide) (fun c_93 => ?_) (fun c_93 => ?_)
                  · skip
                    rw [if_neg c_93] at hF
                    rw [if_neg c_93] at hs
                    refine lv_aload_n hx hb dX8_doRegisters_269 rfl (lv_at hl 2 rfl) ?_
                    refine lv_iload_n hx hb dX8_doRegisters_270 rfl (lv_at hl 4 rfl) ?_
                    refine lv_iload hx hb dX8_doRegisters_271 (lv_at hl 0 rfl) ?_
                    have hi_94 := hs
                    refine q_Vv (rest := []) (c_X8_divide l D a_this a_this_reg a_this_bytes a_this_keys a_this_card a_this_filled a_this_taken a_this_line a_this_one a_this_two k_this_reg w_86 r_this_reg p2 (r_this_reg p3.toNatClampNeg) hi_94) cv_X8_divide hx hb hml hown ht hN hK hA hP hD hS hl.1 (km_X8_139) ⟨Nat.le_of_ble_eq_true rfl, Nat.le_of_ble_eq_true rfl⟩ rfl rfl [0, 3] (by decide) rfl [2] rfl (fun _ => rfl) (ci := 8) rfl rfl rfl rfl rfl (Nat.le_of_ble_eq_true rfl) dX8_doRegisters_273 ⟨Nat.zero_le _, Nat.zero_le _⟩ (fun w_95 H locs hw hP hD hS => ?_)
                    have hP : va_P D vwCl [(a_this, oX8 a_this_bytes a_this_keys a_this_reg a_this_card a_this_filled a_this_taken a_this_line a_this_one a_this_two w_95.1), (a_this_bytes, .inl (k_this_bytes, 2048, .inl r_this_bytes)), (a_this_keys, .inl (k_this_keys, 8, .inl r_this_keys)), (a_this_reg, .inl (k_this_reg, 16, .inl w_95.2))] H := hP
                    have hD : va_D A [(a_this, oX8 a_this_bytes a_this_keys a_this_reg a_this_card a_this_filled a_this_taken a_this_line a_this_one a_this_two w_95.1), (a_this_bytes, .inl (k_this_bytes, 2048, .inl r_this_bytes)), (a_this_keys, .inl (k_this_keys, 8, .inl r_this_keys)), (a_this_reg, .inl (k_this_reg, 16, .inl w_95.2))] := hD
                    rw [q_let_of hw] at hF
                    exact hQ (w_95.1, r_this_bytes, r_this_keys, w_95.2) _ _ _ _ dX8_doRegisters_276 hF.symm hP hD hS
                  · skip
                    rw [if_pos c_93] at hF
                    rw [if_pos c_93] at hs
                    refine lv_aload_n hx hb dX8_doRegisters_228 rfl (lv_at hl 2 rfl) ?_
                    refine gf_X8_16 (v := .ref a_this_reg) hx hb hown ht hK hP 0 rfl rfl dX8_doRegisters_229 ?_
                    refine lv_iload_n hx hb dX8_doRegisters_232 rfl (lv_at hl 4 rfl) ?_
                    refine lv_iconst (v := 1) hx hb dX8_doRegisters_233 (by decide) ?_
                    refine lv_iadd hx hb dX8_doRegisters_234 ?_
                    obtain ⟨hi_96, hs⟩ := hs
                    refine va_iald hx hb hK hP 3 2 rfl rfl hi_96 dX8_doRegisters_235 ?_
                    refine lv_i2l hx hb dX8_doRegisters_236 rfl ?_
                    refine lv_iload hx hb dX8_doRegisters_237 (lv_at hl 0 rfl) ?_
                    refine lv_i2l hx hb dX8_doRegisters_239 rfl ?_
                    refine lv_lmul hx hb dX8_doRegisters_240 ?_
                    refine lv_lstore (lv' := [(6, .long (((r_this_reg (p2 + (1 : Int32)).toNatClampNeg).toInt64) * ((r_this_reg p3.toNatClampNeg).toInt64))), (5, .int (r_this_reg p3.toNatClampNeg)), (4, .int (r_this_reg p2.toNatClampNeg)), (0, .ref a_this), (1, .int p1), (2, .int p2), (3, .int p3)]) hx hb dX8_doRegisters_241 hl (by decide) rfl (fun ls hl => ?_)
                    refine lv_aload_n hx hb dX8_doRegisters_243 rfl (lv_at hl 3 rfl) ?_
                    refine gf_X8_16 (v := .ref a_this_reg) hx hb hown ht hK hP 0 rfl rfl dX8_doRegisters_244 ?_
                    refine lv_iload_n hx hb dX8_doRegisters_247 rfl (lv_at hl 5 rfl) ?_
                    refine lv_lload hx hb dX8_doRegisters_248 (lv_at hl 0 rfl) ?_
                    refine lv_bipush (v := 32) hx hb dX8_doRegisters_250 (by decide) ?_
                    refine lv_lshr hx hb dX8_doRegisters_252 rfl ?_
                    refine lv_l2i hx hb dX8_doRegisters_253 rfl ?_
                    obtain ⟨hi_97, hs⟩ := hs
                    refine va_iast hx hb hK hP hD hS 3 2 rfl rfl hi_97 dX8_doRegisters_254 (fun H locs hP hD hS => ?_)
                    have hP : va_P D vwCl [(a_this, oX8 a_this_bytes a_this_keys a_this_reg a_this_card a_this_filled a_this_taken a_this_line a_this_one a_this_two w_86), (a_this_bytes, .inl (k_this_bytes, 2048, .inl r_this_bytes)), (a_this_keys, .inl (k_this_keys, 8, .inl r_this_keys)), (a_this_reg, .inl (k_this_reg, 16, .inl (upd r_this_reg p2.toNatClampNeg (((((r_this_reg (p2 + (1 : Int32)).toNatClampNeg).toInt64) * ((r_this_reg p3.toNatClampNeg).toInt64)) >>> ((32 : Int32).toInt64 &&& 63)).toInt32))))] H := hP
                    have hD : va_D A [(a_this, oX8 a_this_bytes a_this_keys a_this_reg a_this_card a_this_filled a_this_taken a_this_line a_this_one a_this_two w_86), (a_this_bytes, .inl (k_this_bytes, 2048, .inl r_this_bytes)), (a_this_keys, .inl (k_this_keys, 8, .inl r_this_keys)), (a_this_reg, .inl (k_this_reg, 16, .inl (upd r_this_reg p2.toNatClampNeg (((((r_this_reg (p2 + (1 : Int32)).toNatClampNeg).toInt64) * ((r_this_reg p3.toNatClampNeg).toInt64)) >>> ((32 : Int32).toInt64 &&& 63)).toInt32))))] := hD
                    refine lv_aload_n hx hb dX8_doRegisters_255 rfl (lv_at hl 3 rfl) ?_
                    refine gf_X8_16 (v := .ref a_this_reg) hx hb hown ht hK hP 0 rfl rfl dX8_doRegisters_256 ?_
                    refine lv_iload_n hx hb dX8_doRegisters_259 rfl (lv_at hl 5 rfl) ?_
                    refine lv_iconst (v := 1) hx hb dX8_doRegisters_260 (by decide) ?_
                    refine lv_iadd hx hb dX8_doRegisters_261 ?_
                    refine lv_lload hx hb dX8_doRegisters_262 (lv_at hl 0 rfl) ?_
                    refine lv_l2i hx hb dX8_doRegisters_264 rfl ?_
                    have hi_98 := hs
                    refine va_iast hx hb hK hP hD hS 3 2 rfl rfl hi_98 dX8_doRegisters_265 (fun H locs hP hD hS => ?_)
                    have hP : va_P D vwCl [(a_this, oX8 a_this_bytes a_this_keys a_this_reg a_this_card a_this_filled a_this_taken a_this_line a_this_one a_this_two w_86), (a_this_bytes, .inl (k_this_bytes, 2048, .inl r_this_bytes)), (a_this_keys, .inl (k_this_keys, 8, .inl r_this_keys)), (a_this_reg, .inl (k_this_reg, 16, .inl (upd (upd r_this_reg p2.toNatClampNeg (((((r_this_reg (p2 + (1 : Int32)).toNatClampNeg).toInt64) * ((r_this_reg p3.toNatClampNeg).toInt64)) >>> ((32 : Int32).toInt64 &&& 63)).toInt32)) (p2 + (1 : Int32)).toNatClampNeg ((((r_this_reg (p2 + (1 : Int32)).toNatClampNeg).toInt64) * ((r_this_reg p3.toNatClampNeg).toInt64)).toInt32))))] H := hP
                    have hD : va_D A [(a_this, oX8 a_this_bytes a_this_keys a_this_reg a_this_card a_this_filled a_this_taken a_this_line a_this_one a_this_two w_86), (a_this_bytes, .inl (k_this_bytes, 2048, .inl r_this_bytes)), (a_this_keys, .inl (k_this_keys, 8, .inl r_this_keys)), (a_this_reg, .inl (k_this_reg, 16, .inl (upd (upd r_this_reg p2.toNatClampNeg (((((r_this_reg (p2 + (1 : Int32)).toNatClampNeg).toInt64) * ((r_this_reg p3.toNatClampNeg).toInt64)) >>> ((32 : Int32).toInt64 &&& 63)).toInt32)) (p2 + (1 : Int32)).toNatClampNeg ((((r_this_reg (p2 + (1 : Int32)).toNatClampNeg).toInt64) * ((r_this_reg p3.toNatClampNeg).toInt64)).toInt32))))] := hD
                    refine lv_goto (tgt := 276) hx hb dX8_doRegisters_266 (by decide) ?_
                    exact hQ (w_86, r_this_bytes, r_this_keys, (upd (upd r_this_reg p2.toNatClampNeg (((((r_this_reg (p2 + (1 : Int32)).toNatClampNeg).toInt64) * ((r_this_reg p3.toNatClampNeg).toInt64)) >>> ((32 : Int32).toInt64 &&& 63)).toInt32)) (p2 + (1 : Int32)).toNatClampNeg ((((r_this_reg (p2 + (1 : Int32)).toNatClampNeg).toInt64) * ((r_this_reg p3.toNatClampNeg).toInt64)).toInt32))) _ _ _ _ dX8_doRegisters_276 hF.symm hP hD hS
                · skip
                  rw [if_neg c_92] at hF
                  rw [if_neg c_92] at hs
                  refine lv_aload_n hx hb dX8_doRegisters_186 rfl (lv_at hl 2 rfl) ?_
                  refine gf_X8_16 (v := .ref a_this_reg) hx hb hown ht hK hP 0 rfl rfl dX8_doRegisters_187 ?_
                  refine lv_iload_n hx hb dX8_doRegisters_190 rfl (lv_at hl 4 rfl) ?_
                  refine lv_aload_n hx hb dX8_doRegisters_191 rfl (lv_at hl 2 rfl) ?_
                  refine lv_iload_n hx hb dX8_doRegisters_192 rfl (lv_at hl 3 rfl) ?_
                  refine lv_bipush (v := 26) hx hb dX8_doRegisters_193 (by decide) ?_
                  refine lv_icmp_ne (tgt := 208) hx hb dX8_doRegisters_195 (by decide) (fun c_99 => ?_) (fun c_99 => ?_)
                  · skip
                    rw [if_neg c_99] at hF
                    rw [if_neg c_99] at hs
                    refine lv_iload hx hb dX8_doRegisters_208 (lv_at hl 1 rfl) ?_
                    refine lv_i2l hx hb dX8_doRegisters_210 rfl ?_
                    refine lv_iload hx hb dX8_doRegisters_211 (lv_at hl 0 rfl) ?_
                    refine lv_i2l hx hb dX8_doRegisters_213 rfl ?_
                    refine lv_lsub hx hb dX8_doRegisters_214 ?_
                    refine q_Vi (rest := [.int p2, .ref a_this_reg]) (c_X8_summed l D a_this a_this_bytes a_this_keys a_this_reg a_this_card a_this_filled a_this_taken a_this_line a_this_one a_this_two w_86 (((r_this_reg p2.toNatClampNeg).toInt64) - ((r_this_reg p3.toNatClampNeg).toInt64))) cv_X8_summed hx hb hml hown ht hN hK hA hP hD hS hl.1 (km_X8_135) ⟨Nat.le_of_ble_eq_true rfl, Nat.le_of_ble_eq_true rfl⟩ rfl rfl [0] (by decide) rfl [] rfl (fun _ => rfl) (ci := 8) rfl rfl rfl rfl rfl (Nat.le_of_ble_eq_true rfl) dX8_doRegisters_215 ⟨Nat.zero_le _, Nat.zero_le _⟩ (fun r w_100 H locs hw hP hD hS => ?_)
                    obtain ⟨hw, hr⟩ := hw
                    subst hr
                    have hP : va_P D vwCl [(a_this, oX8 a_this_bytes a_this_keys a_this_reg a_this_card a_this_filled a_this_taken a_this_line a_this_one a_this_two w_100.2), (a_this_bytes, .inl (k_this_bytes, 2048, .inl r_this_bytes)), (a_this_keys, .inl (k_this_keys, 8, .inl r_this_keys)), (a_this_reg, .inl (k_this_reg, 16, .inl r_this_reg))] H := hP
                    have hD : va_D A [(a_this, oX8 a_this_bytes a_this_keys a_this_reg a_this_card a_this_filled a_this_taken a_this_line a_this_one a_this_two w_100.2), (a_this_bytes, .inl (k_this_bytes, 2048, .inl r_this_bytes)), (a_this_keys, .inl (k_this_keys, 8, .inl r_this_keys)), (a_this_reg, .inl (k_this_reg, 16, .inl r_this_reg))] := hD
                    rw [q_let_of hw] at hF
                    rw [q_let_of hw] at hs
                    have hi_101 := hs
                    refine va_iast hx hb hK hP hD hS 3 2 rfl rfl hi_101 dX8_doRegisters_218 (fun H locs hP hD hS => ?_)
                    have hP : va_P D vwCl [(a_this, oX8 a_this_bytes a_this_keys a_this_reg a_this_card a_this_filled a_this_taken a_this_line a_this_one a_this_two w_100.2), (a_this_bytes, .inl (k_this_bytes, 2048, .inl r_this_bytes)), (a_this_keys, .inl (k_this_keys, 8, .inl r_this_keys)), (a_this_reg, .inl (k_this_reg, 16, .inl (upd r_this_reg p2.toNatClampNeg w_100.1)))] H := hP
                    have hD : va_D A [(a_this, oX8 a_this_bytes a_this_keys a_this_reg a_this_card a_this_filled a_this_taken a_this_line a_this_one a_this_two w_100.2), (a_this_bytes, .inl (k_this_bytes, 2048, .inl r_this_bytes)), (a_this_keys, .inl (k_this_keys, 8, .inl r_this_keys)), (a_this_reg, .inl (k_this_reg, 16, .inl (upd r_this_reg p2.toNatClampNeg w_100.1)))] := hD
                    refine lv_goto (tgt := 276) hx hb dX8_doRegisters_219 (by decide) ?_
                    exact hQ (w_100.2, r_this_bytes, r_this_keys, (upd r_this_reg p2.toNatClampNeg w_100.1)) _ _ _ _ dX8_doRegisters_276 hF.symm hP hD hS
                  · skip
                    rw [if_pos c_99] at hF
                    rw [if_pos c_99] at hs
                    refine lv_iload hx hb dX8_doRegisters_198 (lv_at hl 1 rfl) ?_
                    refine lv_i2l hx hb dX8_doRegisters_200 rfl ?_
                    refine lv_iload hx hb dX8_doRegisters_201 (lv_at hl 0 rfl) ?_
                    refine lv_i2l hx hb dX8_doRegisters_203 rfl ?_
                    refine lv_ladd hx hb dX8_doRegisters_204 ?_
                    refine lv_goto (tgt := 215) hx hb dX8_doRegisters_205 (by decide) ?_
                    refine q_Vi (rest := [.int p2, .ref a_this_reg]) (c_X8_summed l D a_this a_this_bytes a_this_keys a_this_reg a_this_card a_this_filled a_this_taken a_this_line a_this_one a_this_two w_86 (((r_this_reg p2.toNatClampNeg).toInt64) + ((r_this_reg p3.toNatClampNeg).toInt64))) cv_X8_summed hx hb hml hown ht hN hK hA hP hD hS hl.1 (km_X8_135) ⟨Nat.le_of_ble_eq_true rfl, Nat.le_of_ble_eq_true rfl⟩ rfl rfl [0] (by decide) rfl [] rfl (fun _ => rfl) (ci := 8) rfl rfl rfl rfl rfl (Nat.le_of_ble_eq_true rfl) dX8_doRegisters_215 ⟨Nat.zero_le _, Nat.zero_le _⟩ (fun r w_102 H locs hw hP hD hS => ?_)
                    obtain ⟨hw, hr⟩ := hw
                    subst hr
                    have hP : va_P D vwCl [(a_this, oX8 a_this_bytes a_this_keys a_this_reg a_this_card a_this_filled a_this_taken a_this_line a_this_one a_this_two w_102.2), (a_this_bytes, .inl (k_this_bytes, 2048, .inl r_this_bytes)), (a_this_keys, .inl (k_this_keys, 8, .inl r_this_keys)), (a_this_reg, .inl (k_this_reg, 16, .inl r_this_reg))] H := hP
                    have hD : va_D A [(a_this, oX8 a_this_bytes a_this_keys a_this_reg a_this_card a_this_filled a_this_taken a_this_line a_this_one a_this_two w_102.2), (a_this_bytes, .inl (k_this_bytes, 2048, .inl r_this_bytes)), (a_this_keys, .inl (k_this_keys, 8, .inl r_this_keys)), (a_this_reg, .inl (k_this_reg, 16, .inl r_this_reg))] := hD
                    rw [q_let_of hw] at hF
                    rw [q_let_of hw] at hs
                    have hi_103 := hs
                    refine va_iast hx hb hK hP hD hS 3 2 rfl rfl hi_103 dX8_doRegisters_218 (fun H locs hP hD hS => ?_)
                    have hP : va_P D vwCl [(a_this, oX8 a_this_bytes a_this_keys a_this_reg a_this_card a_this_filled a_this_taken a_this_line a_this_one a_this_two w_102.2), (a_this_bytes, .inl (k_this_bytes, 2048, .inl r_this_bytes)), (a_this_keys, .inl (k_this_keys, 8, .inl r_this_keys)), (a_this_reg, .inl (k_this_reg, 16, .inl (upd r_this_reg p2.toNatClampNeg w_102.1)))] H := hP
                    have hD : va_D A [(a_this, oX8 a_this_bytes a_this_keys a_this_reg a_this_card a_this_filled a_this_taken a_this_line a_this_one a_this_two w_102.2), (a_this_bytes, .inl (k_this_bytes, 2048, .inl r_this_bytes)), (a_this_keys, .inl (k_this_keys, 8, .inl r_this_keys)), (a_this_reg, .inl (k_this_reg, 16, .inl (upd r_this_reg p2.toNatClampNeg w_102.1)))] := hD
                    refine lv_goto (tgt := 276) hx hb dX8_doRegisters_219 (by decide) ?_
                    exact hQ (w_102.2, r_this_bytes, r_this_keys, (upd r_this_reg p2.toNatClampNeg w_102.1)) _ _ _ _ dX8_doRegisters_276 hF.symm hP hD hS
              · skip
                rw [if_pos c_91] at hF
                rw [if_pos c_91] at hs
                refine lv_aload_n hx hb dX8_doRegisters_169 rfl (lv_at hl 2 rfl) ?_
                refine lv_iload hx hb dX8_doRegisters_170 (lv_at hl 1 rfl) ?_
                refine lv_iload hx hb dX8_doRegisters_172 (lv_at hl 0 rfl) ?_
                refine q_Vv (rest := []) (c_X8_compared l D a_this a_this_bytes a_this_keys a_this_reg a_this_card a_this_filled a_this_taken a_this_line a_this_one a_this_two w_86 (r_this_reg p2.toNatClampNeg) (r_this_reg p3.toNatClampNeg)) cv_X8_compared hx hb hml hown ht hN hK hA hP hD hS hl.1 (km_X8_131) ⟨Nat.le_of_ble_eq_true rfl, Nat.le_of_ble_eq_true rfl⟩ rfl rfl [0] (by decide) rfl [] rfl (fun _ => rfl) (ci := 8) rfl rfl rfl rfl rfl (Nat.le_of_ble_eq_true rfl) dX8_doRegisters_174 ⟨Nat.zero_le _, Nat.zero_le _⟩ (fun w_104 H locs hw hP hD hS => ?_)
                have hP : va_P D vwCl [(a_this, oX8 a_this_bytes a_this_keys a_this_reg a_this_card a_this_filled a_this_taken a_this_line a_this_one a_this_two w_104), (a_this_bytes, .inl (k_this_bytes, 2048, .inl r_this_bytes)), (a_this_keys, .inl (k_this_keys, 8, .inl r_this_keys)), (a_this_reg, .inl (k_this_reg, 16, .inl r_this_reg))] H := hP
                have hD : va_D A [(a_this, oX8 a_this_bytes a_this_keys a_this_reg a_this_card a_this_filled a_this_taken a_this_line a_this_one a_this_two w_104), (a_this_bytes, .inl (k_this_bytes, 2048, .inl r_this_bytes)), (a_this_keys, .inl (k_this_keys, 8, .inl r_this_keys)), (a_this_reg, .inl (k_this_reg, 16, .inl r_this_reg))] := hD
                rw [q_let_of hw] at hF
                refine lv_goto (tgt := 276) hx hb dX8_doRegisters_177 (by decide) ?_
                exact hQ (w_104, r_this_bytes, r_this_keys, r_this_reg) _ _ _ _ dX8_doRegisters_276 hF.symm hP hD hS
            · skip
              rw [if_pos c_90] at hF
              rw [if_pos c_90] at hs
              refine lv_aload_n hx hb dX8_doRegisters_152 rfl (lv_at hl 2 rfl) ?_
              refine gf_X8_16 (v := .ref a_this_reg) hx hb hown ht hK hP 0 rfl rfl dX8_doRegisters_153 ?_
              refine lv_iload_n hx hb dX8_doRegisters_156 rfl (lv_at hl 4 rfl) ?_
              refine lv_iload hx hb dX8_doRegisters_157 (lv_at hl 0 rfl) ?_
              have hi_105 := hs
              refine va_iast hx hb hK hP hD hS 3 2 rfl rfl hi_105 dX8_doRegisters_159 (fun H locs hP hD hS => ?_)
              have hP : va_P D vwCl [(a_this, oX8 a_this_bytes a_this_keys a_this_reg a_this_card a_this_filled a_this_taken a_this_line a_this_one a_this_two w_86), (a_this_bytes, .inl (k_this_bytes, 2048, .inl r_this_bytes)), (a_this_keys, .inl (k_this_keys, 8, .inl r_this_keys)), (a_this_reg, .inl (k_this_reg, 16, .inl (upd r_this_reg p2.toNatClampNeg (r_this_reg p3.toNatClampNeg))))] H := hP
              have hD : va_D A [(a_this, oX8 a_this_bytes a_this_keys a_this_reg a_this_card a_this_filled a_this_taken a_this_line a_this_one a_this_two w_86), (a_this_bytes, .inl (k_this_bytes, 2048, .inl r_this_bytes)), (a_this_keys, .inl (k_this_keys, 8, .inl r_this_keys)), (a_this_reg, .inl (k_this_reg, 16, .inl (upd r_this_reg p2.toNatClampNeg (r_this_reg p3.toNatClampNeg))))] := hD
              refine lv_goto (tgt := 276) hx hb dX8_doRegisters_160 (by decide) ?_
              exact hQ (w_86, r_this_bytes, r_this_keys, (upd r_this_reg p2.toNatClampNeg (r_this_reg p3.toNatClampNeg))) _ _ _ _ dX8_doRegisters_276 hF.symm hP hD hS
          · skip
            rw [if_neg c_89] at hF
            rw [if_neg c_89] at hs
            refine lv_aload_n hx hb dX8_doRegisters_76 rfl (lv_at hl 2 rfl) ?_
            refine gf_X8_16 (v := .ref a_this_reg) hx hb hown ht hK hP 0 rfl rfl dX8_doRegisters_77 ?_
            refine lv_iload_n hx hb dX8_doRegisters_80 rfl (lv_at hl 4 rfl) ?_
            refine lv_iload_n hx hb dX8_doRegisters_81 rfl (lv_at hl 3 rfl) ?_
            refine lv_bipush (v := 18) hx hb dX8_doRegisters_82 (by decide) ?_
            refine lv_icmp_ne (tgt := 92) hx hb dX8_doRegisters_84 (by decide) (fun c_106 => ?_) (fun c_106 => ?_)
            · skip
              rw [if_neg c_106] at hF
              rw [if_neg c_106] at hs
              refine lv_aload_n hx hb dX8_doRegisters_92 rfl (lv_at hl 2 rfl) ?_
              refine lv_iload_n hx hb dX8_doRegisters_93 rfl (lv_at hl 3 rfl) ?_
              refine lv_bipush (v := 20) hx hb dX8_doRegisters_94 (by decide) ?_
              refine lv_icmp_ne (tgt := 107) hx hb dX8_doRegisters_96 (by decide) (fun c_107 => ?_) (fun c_107 => ?_)
              · skip
                rw [if_neg c_107] at hF
                rw [if_neg c_107] at hs
                refine lv_iload_n hx hb dX8_doRegisters_107 rfl (lv_at hl 3 rfl) ?_
                refine lv_bipush (v := 22) hx hb dX8_doRegisters_108 (by decide) ?_
                refine lv_icmp_ne (tgt := 121) hx hb dX8_doRegisters_110 (by decide) (fun c_108 => ?_) (fun c_108 => ?_)
                · skip
                  rw [if_neg c_108] at hF
                  rw [if_neg c_108] at hs
                  refine lv_iload hx hb dX8_doRegisters_121 (lv_at hl 1 rfl) ?_
                  refine lv_iload hx hb dX8_doRegisters_123 (lv_at hl 0 rfl) ?_
                  refine lv_ixor hx hb dX8_doRegisters_125 ?_
                  refine q_Vi (rest := [.int p2, .ref a_this_reg]) (c_X8_logic l D a_this a_this_bytes a_this_keys a_this_reg a_this_card a_this_filled a_this_taken a_this_line a_this_one a_this_two w_86 ((r_this_reg p2.toNatClampNeg) ^^^ (r_this_reg p3.toNatClampNeg))) cv_X8_logic hx hb hml hown ht hN hK hA hP hD hS hl.1 (km_X8_128) ⟨Nat.le_of_ble_eq_true rfl, Nat.le_of_ble_eq_true rfl⟩ rfl rfl [0] (by decide) rfl [] rfl (fun _ => rfl) (ci := 8) rfl rfl rfl rfl rfl (Nat.le_of_ble_eq_true rfl) dX8_doRegisters_126 ⟨Nat.zero_le _, Nat.zero_le _⟩ (fun r w_109 H locs hw hP hD hS => ?_)
                  obtain ⟨hw, hr⟩ := hw
                  subst hr
                  have hP : va_P D vwCl [(a_this, oX8 a_this_bytes a_this_keys a_this_reg a_this_card a_this_filled a_this_taken a_this_line a_this_one a_this_two w_109.2), (a_this_bytes, .inl (k_this_bytes, 2048, .inl r_this_bytes)), (a_this_keys, .inl (k_this_keys, 8, .inl r_this_keys)), (a_this_reg, .inl (k_this_reg, 16, .inl r_this_reg))] H := hP
                  have hD : va_D A [(a_this, oX8 a_this_bytes a_this_keys a_this_reg a_this_card a_this_filled a_this_taken a_this_line a_this_one a_this_two w_109.2), (a_this_bytes, .inl (k_this_bytes, 2048, .inl r_this_bytes)), (a_this_keys, .inl (k_this_keys, 8, .inl r_this_keys)), (a_this_reg, .inl (k_this_reg, 16, .inl r_this_reg))] := hD
                  rw [q_let_of hw] at hF
                  rw [q_let_of hw] at hs
                  have hi_110 := hs
                  refine va_iast hx hb hK hP hD hS 3 2 rfl rfl hi_110 dX8_doRegisters_129 (fun H locs hP hD hS => ?_)
                  have hP : va_P D vwCl [(a_this, oX8 a_this_bytes a_this_keys a_this_reg a_this_card a_this_filled a_this_taken a_this_line a_this_one a_this_two w_109.2), (a_this_bytes, .inl (k_this_bytes, 2048, .inl r_this_bytes)), (a_this_keys, .inl (k_this_keys, 8, .inl r_this_keys)), (a_this_reg, .inl (k_this_reg, 16, .inl (upd r_this_reg p2.toNatClampNeg w_109.1)))] H := hP
                  have hD : va_D A [(a_this, oX8 a_this_bytes a_this_keys a_this_reg a_this_card a_this_filled a_this_taken a_this_line a_this_one a_this_two w_109.2), (a_this_bytes, .inl (k_this_bytes, 2048, .inl r_this_bytes)), (a_this_keys, .inl (k_this_keys, 8, .inl r_this_keys)), (a_this_reg, .inl (k_this_reg, 16, .inl (upd r_this_reg p2.toNatClampNeg w_109.1)))] := hD
                  refine lv_iload_n hx hb dX8_doRegisters_130 rfl (lv_at hl 3 rfl) ?_
                  refine lv_bipush (v := 18) hx hb dX8_doRegisters_131 (by decide) ?_
                  refine lv_icmp_ne (tgt := 276) hx hb dX8_doRegisters_133 (by decide) (fun c_111 => ?_) (fun c_111 => ?_)
                  · skip
                    rw [if_neg c_111] at hF
                    exact hQ (w_109.2, r_this_bytes, r_this_keys, (upd r_this_reg p2.toNatClampNeg w_109.1)) _ _ _ _ dX8_doRegisters_276 hF.symm hP hD hS
                  · skip
                    rw [if_pos c_111] at hF
                    refine lv_aload_n hx hb dX8_doRegisters_136 rfl (lv_at hl 2 rfl) ?_
                    refine lv_iload hx hb dX8_doRegisters_137 (lv_at hl 0 rfl) ?_
                    refine lv_i2l hx hb dX8_doRegisters_139 rfl ?_
                    refine q_Vv (rest := []) (c_X8_sign l D a_this a_this_bytes a_this_keys a_this_reg a_this_card a_this_filled a_this_taken a_this_line a_this_one a_this_two w_109.2 ((r_this_reg p3.toNatClampNeg).toInt64)) cv_X8_sign hx hb hml hown ht hN hK hA hP hD hS hl.1 (km_X8_120) ⟨Nat.le_of_ble_eq_true rfl, Nat.le_of_ble_eq_true rfl⟩ rfl rfl [0] (by decide) rfl [] rfl (fun _ => rfl) (ci := 8) rfl rfl rfl rfl rfl (Nat.le_of_ble_eq_true rfl) dX8_doRegisters_140 ⟨Nat.zero_le _, Nat.zero_le _⟩ (fun w_112 H locs hw hP hD hS => ?_)
                    have hP : va_P D vwCl [(a_this, oX8 a_this_bytes a_this_keys a_this_reg a_this_card a_this_filled a_this_taken a_this_line a_this_one a_this_two w_112), (a_this_bytes, .inl (k_this_bytes, 2048, .inl r_this_bytes)), (a_this_keys, .inl (k_this_keys, 8, .inl r_this_keys)), (a_this_reg, .inl (k_this_reg, 16, .inl (upd r_this_reg p2.toNatClampNeg w_109.1)))] H := hP
                    have hD : va_D A [(a_this, oX8 a_this_bytes a_this_keys a_this_reg a_this_card a_this_filled a_this_taken a_this_line a_this_one a_this_two w_112), (a_this_bytes, .inl (k_this_bytes, 2048, .inl r_this_bytes)), (a_this_keys, .inl (k_this_keys, 8, .inl r_this_keys)), (a_this_reg, .inl (k_this_reg, 16, .inl (upd r_this_reg p2.toNatClampNeg w_109.1)))] := hD
                    rw [q_let_of hw] at hF
                    refine lv_goto (tgt := 276) hx hb dX8_doRegisters_143 (by decide) ?_
                    exact hQ (w_112, r_this_bytes, r_this_keys, (upd r_this_reg p2.toNatClampNeg w_109.1)) _ _ _ _ dX8_doRegisters_276 hF.symm hP hD hS
                · skip
                  rw [if_pos c_108] at hF
                  rw [if_pos c_108] at hs
                  refine lv_iload hx hb dX8_doRegisters_113 (lv_at hl 1 rfl) ?_
                  refine lv_iload hx hb dX8_doRegisters_115 (lv_at hl 0 rfl) ?_
                  refine lv_ior hx hb dX8_doRegisters_117 ?_
                  refine lv_goto (tgt := 126) hx hb dX8_doRegisters_118 (by decide) ?_
                  refine q_Vi (rest := [.int p2, .ref a_this_reg]) (c_X8_logic l D a_this a_this_bytes a_this_keys a_this_reg a_this_card a_this_filled a_this_taken a_this_line a_this_one a_this_two w_86 ((r_this_reg p2.toNatClampNeg) ||| (r_this_reg p3.toNatClampNeg))) cv_X8_logic hx hb hml hown ht hN hK hA hP hD hS hl.1 (km_X8_128) ⟨Nat.le_of_ble_eq_true rfl, Nat.le_of_ble_eq_true rfl⟩ rfl rfl [0] (by decide) rfl [] rfl (fun _ => rfl) (ci := 8) rfl rfl rfl rfl rfl (Nat.le_of_ble_eq_true rfl) dX8_doRegisters_126 ⟨Nat.zero_le _, Nat.zero_le _⟩ (fun r w_113 H locs hw hP hD hS => ?_)
                  obtain ⟨hw, hr⟩ := hw
                  subst hr
                  have hP : va_P D vwCl [(a_this, oX8 a_this_bytes a_this_keys a_this_reg a_this_card a_this_filled a_this_taken a_this_line a_this_one a_this_two w_113.2), (a_this_bytes, .inl (k_this_bytes, 2048, .inl r_this_bytes)), (a_this_keys, .inl (k_this_keys, 8, .inl r_this_keys)), (a_this_reg, .inl (k_this_reg, 16, .inl r_this_reg))] H := hP
                  have hD : va_D A [(a_this, oX8 a_this_bytes a_this_keys a_this_reg a_this_card a_this_filled a_this_taken a_this_line a_this_one a_this_two w_113.2), (a_this_bytes, .inl (k_this_bytes, 2048, .inl r_this_bytes)), (a_this_keys, .inl (k_this_keys, 8, .inl r_this_keys)), (a_this_reg, .inl (k_this_reg, 16, .inl r_this_reg))] := hD
                  rw [q_let_of hw] at hF
                  rw [q_let_of hw] at hs
                  have hi_114 := hs
                  refine va_iast hx hb hK hP hD hS 3 2 rfl rfl hi_114 dX8_doRegisters_129 (fun H locs hP hD hS => ?_)
                  have hP : va_P D vwCl [(a_this, oX8 a_this_bytes a_this_keys a_this_reg a_this_card a_this_filled a_this_taken a_this_line a_this_one a_this_two w_113.2), (a_this_bytes, .inl (k_this_bytes, 2048, .inl r_this_bytes)), (a_this_keys, .inl (k_this_keys, 8, .inl r_this_keys)), (a_this_reg, .inl (k_this_reg, 16, .inl (upd r_this_reg p2.toNatClampNeg w_113.1)))] H := hP
                  have hD : va_D A [(a_this, oX8 a_this_bytes a_this_keys a_this_reg a_this_card a_this_filled a_this_taken a_this_line a_this_one a_this_two w_113.2), (a_this_bytes, .inl (k_this_bytes, 2048, .inl r_this_bytes)), (a_this_keys, .inl (k_this_keys, 8, .inl r_this_keys)), (a_this_reg, .inl (k_this_reg, 16, .inl (upd r_this_reg p2.toNatClampNeg w_113.1)))] := hD
                  refine lv_iload_n hx hb dX8_doRegisters_130 rfl (lv_at hl 3 rfl) ?_
                  refine lv_bipush (v := 18) hx hb dX8_doRegisters_131 (by decide) ?_
                  refine lv_icmp_ne (tgt := 276) hx hb dX8_doRegisters_133 (by decide) (fun c_115 => ?_) (fun c_115 => ?_)
                  · skip
                    rw [if_neg c_115] at hF
                    exact hQ (w_113.2, r_this_bytes, r_this_keys, (upd r_this_reg p2.toNatClampNeg w_113.1)) _ _ _ _ dX8_doRegisters_276 hF.symm hP hD hS
                  · skip
                    rw [if_pos c_115] at hF
                    refine lv_aload_n hx hb dX8_doRegisters_136 rfl (lv_at hl 2 rfl) ?_
                    refine lv_iload hx hb dX8_doRegisters_137 (lv_at hl 0 rfl) ?_
                    refine lv_i2l hx hb dX8_doRegisters_139 rfl ?_
                    refine q_Vv (rest := []) (c_X8_sign l D a_this a_this_bytes a_this_keys a_this_reg a_this_card a_this_filled a_this_taken a_this_line a_this_one a_this_two w_113.2 ((r_this_reg p3.toNatClampNeg).toInt64)) cv_X8_sign hx hb hml hown ht hN hK hA hP hD hS hl.1 (km_X8_120) ⟨Nat.le_of_ble_eq_true rfl, Nat.le_of_ble_eq_true rfl⟩ rfl rfl [0] (by decide) rfl [] rfl (fun _ => rfl) (ci := 8) rfl rfl rfl rfl rfl (Nat.le_of_ble_eq_true rfl) dX8_doRegisters_140 ⟨Nat.zero_le _, Nat.zero_le _⟩ (fun w_116 H locs hw hP hD hS => ?_)
                    have hP : va_P D vwCl [(a_this, oX8 a_this_bytes a_this_keys a_this_reg a_this_card a_this_filled a_this_taken a_this_line a_this_one a_this_two w_116), (a_this_bytes, .inl (k_this_bytes, 2048, .inl r_this_bytes)), (a_this_keys, .inl (k_this_keys, 8, .inl r_this_keys)), (a_this_reg, .inl (k_this_reg, 16, .inl (upd r_this_reg p2.toNatClampNeg w_113.1)))] H := hP
                    have hD : va_D A [(a_this, oX8 a_this_bytes a_this_keys a_this_reg a_this_card a_this_filled a_this_taken a_this_line a_this_one a_this_two w_116), (a_this_bytes, .inl (k_this_bytes, 2048, .inl r_this_bytes)), (a_this_keys, .inl (k_this_keys, 8, .inl r_this_keys)), (a_this_reg, .inl (k_this_reg, 16, .inl (upd r_this_reg p2.toNatClampNeg w_113.1)))] := hD
                    rw [q_let_of hw] at hF
                    refine lv_goto (tgt := 276) hx hb dX8_doRegisters_143 (by decide) ?_
                    exact hQ (w_116, r_this_bytes, r_this_keys, (upd r_this_reg p2.toNatClampNeg w_113.1)) _ _ _ _ dX8_doRegisters_276 hF.symm hP hD hS
              · skip
                rw [if_pos c_107] at hF
                rw [if_pos c_107] at hs
                refine lv_iload hx hb dX8_doRegisters_99 (lv_at hl 1 rfl) ?_
                refine lv_iload hx hb dX8_doRegisters_101 (lv_at hl 0 rfl) ?_
                refine lv_iand hx hb dX8_doRegisters_103 ?_
                refine lv_goto (tgt := 126) hx hb dX8_doRegisters_104 (by decide) ?_
                refine q_Vi (rest := [.int p2, .ref a_this_reg]) (c_X8_logic l D a_this a_this_bytes a_this_keys a_this_reg a_this_card a_this_filled a_this_taken a_this_line a_this_one a_this_two w_86 ((r_this_reg p2.toNatClampNeg) &&& (r_this_reg p3.toNatClampNeg))) cv_X8_logic hx hb hml hown ht hN hK hA hP hD hS hl.1 (km_X8_128) ⟨Nat.le_of_ble_eq_true rfl, Nat.le_of_ble_eq_true rfl⟩ rfl rfl [0] (by decide) rfl [] rfl (fun _ => rfl) (ci := 8) rfl rfl rfl rfl rfl (Nat.le_of_ble_eq_true rfl) dX8_doRegisters_126 ⟨Nat.zero_le _, Nat.zero_le _⟩ (fun r w_117 H locs hw hP hD hS => ?_)
                obtain ⟨hw, hr⟩ := hw
                subst hr
                have hP : va_P D vwCl [(a_this, oX8 a_this_bytes a_this_keys a_this_reg a_this_card a_this_filled a_this_taken a_this_line a_this_one a_this_two w_117.2), (a_this_bytes, .inl (k_this_bytes, 2048, .inl r_this_bytes)), (a_this_keys, .inl (k_this_keys, 8, .inl r_this_keys)), (a_this_reg, .inl (k_this_reg, 16, .inl r_this_reg))] H := hP
                have hD : va_D A [(a_this, oX8 a_this_bytes a_this_keys a_this_reg a_this_card a_this_filled a_this_taken a_this_line a_this_one a_this_two w_117.2), (a_this_bytes, .inl (k_this_bytes, 2048, .inl r_this_bytes)), (a_this_keys, .inl (k_this_keys, 8, .inl r_this_keys)), (a_this_reg, .inl (k_this_reg, 16, .inl r_this_reg))] := hD
                rw [q_let_of hw] at hF
                rw [q_let_of hw] at hs
                have hi_118 := hs
                refine va_iast hx hb hK hP hD hS 3 2 rfl rfl hi_118 dX8_doRegisters_129 (fun H locs hP hD hS => ?_)
                have hP : va_P D vwCl [(a_this, oX8 a_this_bytes a_this_keys a_this_reg a_this_card a_this_filled a_this_taken a_this_line a_this_one a_this_two w_117.2), (a_this_bytes, .inl (k_this_bytes, 2048, .inl r_this_bytes)), (a_this_keys, .inl (k_this_keys, 8, .inl r_this_keys)), (a_this_reg, .inl (k_this_reg, 16, .inl (upd r_this_reg p2.toNatClampNeg w_117.1)))] H := hP
                have hD : va_D A [(a_this, oX8 a_this_bytes a_this_keys a_this_reg a_this_card a_this_filled a_this_taken a_this_line a_this_one a_this_two w_117.2), (a_this_bytes, .inl (k_this_bytes, 2048, .inl r_this_bytes)), (a_this_keys, .inl (k_this_keys, 8, .inl r_this_keys)), (a_this_reg, .inl (k_this_reg, 16, .inl (upd r_this_reg p2.toNatClampNeg w_117.1)))] := hD
                refine lv_iload_n hx hb dX8_doRegisters_130 rfl (lv_at hl 3 rfl) ?_
                refine lv_bipush (v := 18) hx hb dX8_doRegisters_131 (by decide) ?_
                refine lv_icmp_ne (tgt := 276) hx hb dX8_doRegisters_133 (by decide) (fun c_119 => ?_) (fun c_119 => ?_)
                · skip
                  rw [if_neg c_119] at hF
                  exact hQ (w_117.2, r_this_bytes, r_this_keys, (upd r_this_reg p2.toNatClampNeg w_117.1)) _ _ _ _ dX8_doRegisters_276 hF.symm hP hD hS
                · skip
                  rw [if_pos c_119] at hF
                  refine lv_aload_n hx hb dX8_doRegisters_136 rfl (lv_at hl 2 rfl) ?_
                  refine lv_iload hx hb dX8_doRegisters_137 (lv_at hl 0 rfl) ?_
                  refine lv_i2l hx hb dX8_doRegisters_139 rfl ?_
                  refine q_Vv (rest := []) (c_X8_sign l D a_this a_this_bytes a_this_keys a_this_reg a_this_card a_this_filled a_this_taken a_this_line a_this_one a_this_two w_117.2 ((r_this_reg p3.toNatClampNeg).toInt64)) cv_X8_sign hx hb hml hown ht hN hK hA hP hD hS hl.1 (km_X8_120) ⟨Nat.le_of_ble_eq_true rfl, Nat.le_of_ble_eq_true rfl⟩ rfl rfl [0] (by decide) rfl [] rfl (fun _ => rfl) (ci := 8) rfl rfl rfl rfl rfl (Nat.le_of_ble_eq_true rfl) dX8_doRegisters_140 ⟨Nat.zero_le _, Nat.zero_le _⟩ (fun w_120 H locs hw hP hD hS => ?_)
                  have hP : va_P D vwCl [(a_this, oX8 a_this_bytes a_this_keys a_this_reg a_this_card a_this_filled a_this_taken a_this_line a_this_one a_this_two w_120), (a_this_bytes, .inl (k_this_bytes, 2048, .inl r_this_bytes)), (a_this_keys, .inl (k_this_keys, 8, .inl r_this_keys)), (a_this_reg, .inl (k_this_reg, 16, .inl (upd r_this_reg p2.toNatClampNeg w_117.1)))] H := hP
                  have hD : va_D A [(a_this, oX8 a_this_bytes a_this_keys a_this_reg a_this_card a_this_filled a_this_taken a_this_line a_this_one a_this_two w_120), (a_this_bytes, .inl (k_this_bytes, 2048, .inl r_this_bytes)), (a_this_keys, .inl (k_this_keys, 8, .inl r_this_keys)), (a_this_reg, .inl (k_this_reg, 16, .inl (upd r_this_reg p2.toNatClampNeg w_117.1)))] := hD
                  rw [q_let_of hw] at hF
                  refine lv_goto (tgt := 276) hx hb dX8_doRegisters_143 (by decide) ?_
                  exact hQ (w_120, r_this_bytes, r_this_keys, (upd r_this_reg p2.toNatClampNeg w_117.1)) _ _ _ _ dX8_doRegisters_276 hF.symm hP hD hS
            · skip
              rw [if_pos c_106] at hF
              rw [if_pos c_106] at hs
              refine lv_iload hx hb dX8_doRegisters_87 (lv_at hl 0 rfl) ?_
              refine lv_goto (tgt := 129) hx hb dX8_doRegisters_89 (by decide) ?_
              have hi_121 := hs
              refine va_iast hx hb hK hP hD hS 3 2 rfl rfl hi_121 dX8_doRegisters_129 (fun H locs hP hD hS => ?_)
              have hP : va_P D vwCl [(a_this, oX8 a_this_bytes a_this_keys a_this_reg a_this_card a_this_filled a_this_taken a_this_line a_this_one a_this_two w_86), (a_this_bytes, .inl (k_this_bytes, 2048, .inl r_this_bytes)), (a_this_keys, .inl (k_this_keys, 8, .inl r_this_keys)), (a_this_reg, .inl (k_this_reg, 16, .inl (upd r_this_reg p2.toNatClampNeg (r_this_reg p3.toNatClampNeg))))] H := hP
              have hD : va_D A [(a_this, oX8 a_this_bytes a_this_keys a_this_reg a_this_card a_this_filled a_this_taken a_this_line a_this_one a_this_two w_86), (a_this_bytes, .inl (k_this_bytes, 2048, .inl r_this_bytes)), (a_this_keys, .inl (k_this_keys, 8, .inl r_this_keys)), (a_this_reg, .inl (k_this_reg, 16, .inl (upd r_this_reg p2.toNatClampNeg (r_this_reg p3.toNatClampNeg))))] := hD
              refine lv_iload_n hx hb dX8_doRegisters_130 rfl (lv_at hl 3 rfl) ?_
              refine lv_bipush (v := 18) hx hb dX8_doRegisters_131 (by decide) ?_
              refine lv_icmp_ne (tgt := 276) hx hb dX8_doRegisters_133 (by decide) (fun c_122 => ?_) (fun c_122 => ?_)
              · skip
                rw [if_neg c_122] at hF
                exact hQ (w_86, r_this_bytes, r_this_keys, (upd r_this_reg p2.toNatClampNeg (r_this_reg p3.toNatClampNeg))) _ _ _ _ dX8_doRegisters_276 hF.symm hP hD hS
              · skip
                rw [if_pos c_122] at hF
                refine lv_aload_n hx hb dX8_doRegisters_136 rfl (lv_at hl 2 rfl) ?_
                refine lv_iload hx hb dX8_doRegisters_137 (lv_at hl 0 rfl) ?_
                refine lv_i2l hx hb dX8_doRegisters_139 rfl ?_
                refine q_Vv (rest := []) (c_X8_sign l D a_this a_this_bytes a_this_keys a_this_reg a_this_card a_this_filled a_this_taken a_this_line a_this_one a_this_two w_86 ((r_this_reg p3.toNatClampNeg).toInt64)) cv_X8_sign hx hb hml hown ht hN hK hA hP hD hS hl.1 (km_X8_120) ⟨Nat.le_of_ble_eq_true rfl, Nat.le_of_ble_eq_true rfl⟩ rfl rfl [0] (by decide) rfl [] rfl (fun _ => rfl) (ci := 8) rfl rfl rfl rfl rfl (Nat.le_of_ble_eq_true rfl) dX8_doRegisters_140 ⟨Nat.zero_le _, Nat.zero_le _⟩ (fun w_123 H locs hw hP hD hS => ?_)
                have hP : va_P D vwCl [(a_this, oX8 a_this_bytes a_this_keys a_this_reg a_this_card a_this_filled a_this_taken a_this_line a_this_one a_this_two w_123), (a_this_bytes, .inl (k_this_bytes, 2048, .inl r_this_bytes)), (a_this_keys, .inl (k_this_keys, 8, .inl r_this_keys)), (a_this_reg, .inl (k_this_reg, 16, .inl (upd r_this_reg p2.toNatClampNeg (r_this_reg p3.toNatClampNeg))))] H := hP
                have hD : va_D A [(a_this, oX8 a_this_bytes a_this_keys a_this_reg a_this_card a_this_filled a_this_taken a_this_line a_this_one a_this_two w_123), (a_this_bytes, .inl (k_this_bytes, 2048, .inl r_this_bytes)), (a_this_keys, .inl (k_this_keys, 8, .inl r_this_keys)), (a_this_reg, .inl (k_this_reg, 16, .inl (upd r_this_reg p2.toNatClampNeg (r_this_reg p3.toNatClampNeg))))] := hD
                rw [q_let_of hw] at hF
                refine lv_goto (tgt := 276) hx hb dX8_doRegisters_143 (by decide) ?_
                exact hQ (w_123, r_this_bytes, r_this_keys, (upd r_this_reg p2.toNatClampNeg (r_this_reg p3.toNatClampNeg))) _ _ _ _ dX8_doRegisters_276 hF.symm hP hD hS
        · skip
          rw [if_neg c_88] at hF
          rw [if_neg c_88] at hs
          refine lv_aload_n hx hb dX8_doRegisters_60 rfl (lv_at hl 2 rfl) ?_
          refine lv_iload_n hx hb dX8_doRegisters_61 rfl (lv_at hl 3 rfl) ?_
          refine lv_iload_n hx hb dX8_doRegisters_62 rfl (lv_at hl 4 rfl) ?_
          refine lv_iload_n hx hb dX8_doRegisters_63 rfl (lv_at hl 5 rfl) ?_
          have hi_124 := hs
          refine q_Vv (rest := []) (c_X8_control l D a_this a_this_bytes a_this_keys a_this_reg a_this_card a_this_filled a_this_taken a_this_line a_this_one a_this_two k_this_bytes k_this_keys k_this_reg w_86 r_this_bytes r_this_keys r_this_reg p1 p2 p3 hi_124) cv_X8_control hx hb hml hown ht hN hK hA hP hD hS hl.1 (km_X8_125) ⟨Nat.le_of_ble_eq_true rfl, Nat.le_of_ble_eq_true rfl⟩ rfl rfl [0, 1, 2, 3] (by decide) rfl [0, 1, 2] rfl (fun _ => rfl) (ci := 8) rfl rfl rfl rfl rfl (Nat.le_of_ble_eq_true rfl) dX8_doRegisters_64 ⟨Nat.zero_le _, Nat.zero_le _⟩ (fun w_125 H locs hw hP hD hS => ?_)
          have hP : va_P D vwCl [(a_this, oX8 a_this_bytes a_this_keys a_this_reg a_this_card a_this_filled a_this_taken a_this_line a_this_one a_this_two w_125.1), (a_this_bytes, .inl (k_this_bytes, 2048, .inl w_125.2.1)), (a_this_keys, .inl (k_this_keys, 8, .inl w_125.2.2.1)), (a_this_reg, .inl (k_this_reg, 16, .inl w_125.2.2.2))] H := hP
          have hD : va_D A [(a_this, oX8 a_this_bytes a_this_keys a_this_reg a_this_card a_this_filled a_this_taken a_this_line a_this_one a_this_two w_125.1), (a_this_bytes, .inl (k_this_bytes, 2048, .inl w_125.2.1)), (a_this_keys, .inl (k_this_keys, 8, .inl w_125.2.2.1)), (a_this_reg, .inl (k_this_reg, 16, .inl w_125.2.2.2))] := hD
          rw [q_let_of hw] at hF
          refine lv_goto (tgt := 276) hx hb dX8_doRegisters_67 (by decide) ?_
          exact hQ (w_125.1, w_125.2.1, w_125.2.2.1, w_125.2.2.2) _ _ _ _ dX8_doRegisters_276 hF.symm hP hD hS
      · skip
        rw [if_neg c_87] at hF
        rw [if_neg c_87] at hs
        exact hQ (w_86, r_this_bytes, r_this_keys, r_this_reg) _ _ _ _ dX8_doRegisters_53 hF.symm hP hD hS
    · skip
      rw [if_pos c_85] at hF
      rw [if_pos c_85] at hs
      refine lv_iload_n hx hb dX8_doRegisters_29 rfl (lv_at hl 4 rfl) ?_
      refine lv_iconst (v := 2) hx hb dX8_doRegisters_30 (by decide) ?_
      refine lv_irem hx hb dX8_doRegisters_31 (by decide) ?_
      refine lv_iconst (v := 1) hx hb dX8_doRegisters_32 (by decide) ?_
      refine lv_icmp_ne (tgt := 40) hx hb dX8_doRegisters_33 (by decide) (fun c_126 => ?_) (fun c_126 => ?_)
      · skip
        rw [if_neg c_126] at hF
        rw [if_neg c_126] at hs
        refine lv_iconst (v := 0) hx hb dX8_doRegisters_40 (by decide) ?_
        refine lv_bipush (v := 6) hx hb dX8_doRegisters_41 (by decide) ?_
        refine q_Vv (rest := []) (c_X8_wrong l D a_this a_this_bytes a_this_keys a_this_reg a_this_card a_this_filled a_this_taken a_this_line a_this_one a_this_two o_this false 6) cv_X8_wrong hx hb hml hown ht hN hK hA hP hD hS hl.1 (km_X8_42) ⟨Nat.le_of_ble_eq_true rfl, Nat.le_of_ble_eq_true rfl⟩ rfl rfl [0] (by decide) rfl [] rfl (fun _ => rfl) (ci := 8) rfl rfl rfl rfl rfl (Nat.le_of_ble_eq_true rfl) dX8_doRegisters_43 ⟨Nat.zero_le _, Nat.zero_le _⟩ (fun w_127 H locs hw hP hD hS => ?_)
        have hP : va_P D vwCl [(a_this, oX8 a_this_bytes a_this_keys a_this_reg a_this_card a_this_filled a_this_taken a_this_line a_this_one a_this_two w_127), (a_this_bytes, .inl (k_this_bytes, 2048, .inl r_this_bytes)), (a_this_keys, .inl (k_this_keys, 8, .inl r_this_keys)), (a_this_reg, .inl (k_this_reg, 16, .inl r_this_reg))] H := hP
        have hD : va_D A [(a_this, oX8 a_this_bytes a_this_keys a_this_reg a_this_card a_this_filled a_this_taken a_this_line a_this_one a_this_two w_127), (a_this_bytes, .inl (k_this_bytes, 2048, .inl r_this_bytes)), (a_this_keys, .inl (k_this_keys, 8, .inl r_this_keys)), (a_this_reg, .inl (k_this_reg, 16, .inl r_this_reg))] := hD
        rw [q_let_of hw] at hF
        rw [q_let_of hw] at hs
        refine lv_aload_n hx hb dX8_doRegisters_46 rfl (lv_at hl 2 rfl) ?_
        refine gf_X8_38 (v := .int w_127.2.2.2.2.2.2.2.2.1) hx hb hown ht hK hP 0 rfl rfl dX8_doRegisters_47 ?_
        refine lv_if_le (tgt := 54) hx hb dX8_doRegisters_50 (by decide) (fun c_128 => ?_) (fun c_128 => ?_)
        · skip
          rw [if_pos c_128] at hF
          rw [if_pos c_128] at hs
          refine lv_iload_n hx hb dX8_doRegisters_54 rfl (lv_at hl 3 rfl) ?_
          refine lv_bipush (v := 16) hx hb dX8_doRegisters_55 (by decide) ?_
          refine lv_icmp_ge (tgt := 70) hx hb dX8_doRegisters_57 (by decide) (fun c_129 => ?_) (fun c_129 => ?_)
          · skip
            rw [if_pos c_129] at hF
            rw [if_pos c_129] at hs
            refine lv_iload_n hx hb dX8_doRegisters_70 rfl (lv_at hl 3 rfl) ?_
            refine lv_bipush (v := 24) hx hb dX8_doRegisters_71 (by decide) ?_
            refine lv_icmp_ge (tgt := 146) hx hb dX8_doRegisters_73 (by decide) (fun c_130 => ?_) (fun c_130 => ?_)
            · skip
              rw [if_pos c_130] at hF
              rw [if_pos c_130] at hs
              refine lv_iload_n hx hb dX8_doRegisters_146 rfl (lv_at hl 3 rfl) ?_
              refine lv_bipush (v := 24) hx hb dX8_doRegisters_147 (by decide) ?_
              refine lv_icmp_ne (tgt := 163) hx hb dX8_doRegisters_149 (by decide) (fun c_131 => ?_) (fun c_131 => ?_)
              · skip
                rw [if_neg c_131] at hF
                rw [if_neg c_131] at hs
                refine lv_iload_n hx hb dX8_doRegisters_163 rfl (lv_at hl 3 rfl) ?_
                refine lv_bipush (v := 25) hx hb dX8_doRegisters_164 (by decide) ?_
                refine lv_icmp_ne (tgt := 180) hx hb dX8_doRegisters_166 (by decide) (fun c_132 => ?_) (fun c_132 => ?_)
                · skip
                  rw [if_neg c_132] at hF
                  rw [if_neg c_132] at hs
                  refine lv_iload_n hx hb dX8_doRegisters_180 rfl (lv_at hl 3 rfl) ?_
                  refine lv_bipush (v := 28) hx hb dX8_doRegisters_181 (by decide) ?_
                  refine lv_icmp_ge (tgt := 222) hx hb dX8_doRegisters_183 (by decide) (fun c_133 => ?_) (fun c_133 => ?_)
                  · skip
                    rw [if_pos c_133] at hF
                    rw [if_pos c_133] at hs
                    refine lv_iload_n hx hb dX8_doRegisters_222 rfl (lv_at hl 3 rfl) ?_
                    refine lv_bipush (v := 28) hx hb dX8_doRegisters_223 (by decide) ?_
                    refine lv_icmp_ne (tgt := 269) hx hb dX8_doRegisters_225 (by decide) (fun c_134 => ?_) (fun c_134 => ?_)
                    · skip
                      rw [if_neg c_134] at hF
                      rw [if_neg c_134] at hs
                      refine lv_aload_n hx hb dX8_doRegisters_269 rfl (lv_at hl 2 rfl) ?_
                      refine lv_iload_n hx hb dX8_doRegisters_270 rfl (lv_at hl 4 rfl) ?_
                      refine lv_iload hx hb dX8_doRegisters_271 (lv_at hl 0 rfl) ?_
                      have hi_135 := hs
                      refine q_Vv (rest := []) (c_X8_divide l D a_this a_this_reg a_this_bytes a_this_keys a_this_card a_this_filled a_this_taken a_this_line a_this_one a_this_two k_this_reg w_127 r_this_reg p2 (r_this_reg p3.toNatClampNeg) hi_135) cv_X8_divide hx hb hml hown ht hN hK hA hP hD hS hl.1 (km_X8_139) ⟨Nat.le_of_ble_eq_true rfl, Nat.le_of_ble_eq_true rfl⟩ rfl rfl [0, 3] (by decide) rfl [2] rfl (fun _ => rfl) (ci := 8) rfl rfl rfl rfl rfl (Nat.le_of_ble_eq_true rfl) dX8_doRegisters_273 ⟨Nat.zero_le _, Nat.zero_le _⟩ (fun w_136 H locs hw hP hD hS => ?_)
                      have hP : va_P D vwCl [(a_this, oX8 a_this_bytes a_this_keys a_this_reg a_this_card a_this_filled a_this_taken a_this_line a_this_one a_this_two w_136.1), (a_this_bytes, .inl (k_this_bytes, 2048, .inl r_this_bytes)), (a_this_keys, .inl (k_this_keys, 8, .inl r_this_keys)), (a_this_reg, .inl (k_this_reg, 16, .inl w_136.2))] H := hP
                      have hD : va_D A [(a_this, oX8 a_this_bytes a_this_keys a_this_reg a_this_card a_this_filled a_this_taken a_this_line a_this_one a_this_two w_136.1), (a_this_bytes, .inl (k_this_bytes, 2048, .inl r_this_bytes)), (a_this_keys, .inl (k_this_keys, 8, .inl r_this_keys)), (a_this_reg, .inl (k_this_reg, 16, .inl w_136.2))] := hD
                      rw [q_let_of hw] at hF
                      exact hQ (w_136.1, r_this_bytes, r_this_keys, w_136.2) _ _ _ _ dX8_doRegisters_276 hF.symm hP hD hS
                    · skip
                      rw [if_pos c_134] at hF
                      rw [if_pos c_134] at hs
                      refine lv_aload_n hx hb dX8_doRegisters_228 rfl (lv_at hl 2 rfl) ?_
                      refine gf_X8_16 (v := .ref a_this_reg) hx hb hown ht hK hP 0 rfl rfl dX8_doRegisters_229 ?_
                      refine lv_iload_n hx hb dX8_doRegisters_232 rfl (lv_at hl 4 rfl) ?_
                      refine lv_iconst (v := 1) hx hb dX8_doRegisters_233 (by decide) ?_
                      refine lv_iadd hx hb dX8_doRegisters_234 ?_
                      obtain ⟨hi_137, hs⟩ := hs
                      refine va_iald hx hb hK hP 3 2 rfl rfl hi_137 dX8_doRegisters_235 ?_
                      refine lv_i2l hx hb dX8_doRegisters_236 rfl ?_
                      refine lv_iload hx hb dX8_doRegisters_237 (lv_at hl 0 rfl) ?_
                      refine lv_i2l hx hb dX8_doRegisters_239 rfl ?_
                      refine lv_lmul hx hb dX8_doRegisters_240 ?_
                      refine lv_lstore (lv' := [(6, .long (((r_this_reg (p2 + (1 : Int32)).toNatClampNeg).toInt64) * ((r_this_reg p3.toNatClampNeg).toInt64))), (5, .int (r_this_reg p3.toNatClampNeg)), (4, .int (r_this_reg p2.toNatClampNeg)), (0, .ref a_this), (1, .int p1), (2, .int p2), (3, .int p3)]) hx hb dX8_doRegisters_241 hl (by decide) rfl (fun ls hl => ?_)
                      refine lv_aload_n hx hb dX8_doRegisters_243 rfl (lv_at hl 3 rfl) ?_
                      refine gf_X8_16 (v := .ref a_this_reg) hx hb hown ht hK hP 0 rfl rfl dX8_doRegisters_244 ?_
                      refine lv_iload_n hx hb dX8_doRegisters_247 rfl (lv_at hl 5 rfl) ?_
                      refine lv_lload hx hb dX8_doRegisters_248 (lv_at hl 0 rfl) ?_
                      refine lv_bipush (v := 32) hx hb dX8_doRegisters_250 (by decide) ?_
                      refine lv_lshr hx hb dX8_doRegisters_252 rfl ?_
                      refine lv_l2i hx hb dX8_doRegisters_253 rfl ?_
                      obtain ⟨hi_138, hs⟩ := hs
                      refine va_iast hx hb hK hP hD hS 3 2 rfl rfl hi_138 dX8_doRegisters_254 (fun H locs hP hD hS => ?_)
                      have hP : va_P D vwCl [(a_this, oX8 a_this_bytes a_this_keys a_this_reg a_this_card a_this_filled a_this_taken a_this_line a_this_one a_this_two w_127), (a_this_bytes, .inl (k_this_bytes, 2048, .inl r_this_bytes)), (a_this_keys, .inl (k_this_keys, 8, .inl r_this_keys)), (a_this_reg, .inl (k_this_reg, 16, .inl (upd r_this_reg p2.toNatClampNeg (((((r_this_reg (p2 + (1 : Int32)).toNatClampNeg).toInt64) * ((r_this_reg p3.toNatClampNeg).toInt64)) >>> ((32 : Int32).toInt64 &&& 63)).toInt32))))] H := hP
                      have hD : va_D A [(a_this, oX8 a_this_bytes a_this_keys a_this_reg a_this_card a_this_filled a_this_taken a_this_line a_this_one a_this_two w_127), (a_this_bytes, .inl (k_this_bytes, 2048, .inl r_this_bytes)), (a_this_keys, .inl (k_this_keys, 8, .inl r_this_keys)), (a_this_reg, .inl (k_this_reg, 16, .inl (upd r_this_reg p2.toNatClampNeg (((((r_this_reg (p2 + (1 : Int32)).toNatClampNeg).toInt64) * ((r_this_reg p3.toNatClampNeg).toInt64)) >>> ((32 : Int32).toInt64 &&& 63)).toInt32))))] := hD
                      refine lv_aload_n hx hb dX8_doRegisters_255 rfl (lv_at hl 3 rfl) ?_
                      refine gf_X8_16 (v := .ref a_this_reg) hx hb hown ht hK hP 0 rfl rfl dX8_doRegisters_256 ?_
                      refine lv_iload_n hx hb dX8_doRegisters_259 rfl (lv_at hl 5 rfl) ?_
                      refine lv_iconst (v := 1) hx hb dX8_doRegisters_260 (by decide) ?_
                      refine lv_iadd hx hb dX8_doRegisters_261 ?_
                      refine lv_lload hx hb dX8_doRegisters_262 (lv_at hl 0 rfl) ?_
                      refine lv_l2i hx hb dX8_doRegisters_264 rfl ?_
                      have hi_139 := hs
                      refine va_iast hx hb hK hP hD hS 3 2 rfl rfl hi_139 dX8_doRegisters_265 (fun H locs hP hD hS => ?_)
                      have hP : va_P D vwCl [(a_this, oX8 a_this_bytes a_this_keys a_this_reg a_this_card a_this_filled a_this_taken a_this_line a_this_one a_this_two w_127), (a_this_bytes, .inl (k_this_bytes, 2048, .inl r_this_bytes)), (a_this_keys, .inl (k_this_keys, 8, .inl r_this_keys)), (a_this_reg, .inl (k_this_reg, 16, .inl (upd (upd r_this_reg p2.toNatClampNeg (((((r_this_reg (p2 + (1 : Int32)).toNatClampNeg).toInt64) * ((r_this_reg p3.toNatClampNeg).toInt64)) >>> ((32 : Int32).toInt64 &&& 63)).toInt32)) (p2 + (1 : Int32)).toNatClampNeg ((((r_this_reg (p2 + (1 : Int32)).toNatClampNeg).toInt64) * ((r_this_reg p3.toNatClampNeg).toInt64)).toInt32))))] H := hP
                      have hD : va_D A [(a_this, oX8 a_this_bytes a_this_keys a_this_reg a_this_card a_this_filled a_this_taken a_this_line a_this_one a_this_two w_127), (a_this_bytes, .inl (k_this_bytes, 2048, .inl r_this_bytes)), (a_this_keys, .inl (k_this_keys, 8, .inl r_this_keys)), (a_this_reg, .inl (k_this_reg, 16, .inl (upd (upd r_this_reg p2.toNatClampNeg (((((r_this_reg (p2 + (1 : Int32)).toNatClampNeg).toInt64) * ((r_this_reg p3.toNatClampNeg).toInt64)) >>> ((32 : Int32).toInt64 &&& 63)).toInt32)) (p2 + (1 : Int32)).toNatClampNeg ((((r_this_reg (p2 + (1 : Int32)).toNatClampNeg).toInt64) * ((r_this_reg p3.toNatClampNeg).toInt64)).toInt32))))] := hD
                      refine lv_goto (tgt := 276) hx hb dX8_doRegisters_266 (by decide) ?_
                      exact hQ (w_127, r_this_bytes, r_this_keys, (upd (upd r_this_reg p2.toNatClampNeg (((((r_this_reg (p2 + (1 : Int32)).toNatClampNeg).toInt64) * ((r_this_reg p3.toNatClampNeg).toInt64)) >>> ((32 : Int32).toInt64 &&& 63)).toInt32)) (p2 + (1 : Int32)).toNatClampNeg ((((r_this_reg (p2 + (1 : Int32)).toNatClampNeg).toInt64) * ((r_this_reg p3.toNatClampNeg).toInt64)).toInt32))) _ _ _ _ dX8_doRegisters_276 hF.symm hP hD hS
                  · skip
                    rw [if_neg c_133] at hF
                    rw [if_neg c_133] at hs
                    refine lv_aload_n hx hb dX8_doRegisters_186 rfl (lv_at hl 2 rfl) ?_
                    refine gf_X8_16 (v := .ref a_this_reg) hx hb hown ht hK hP 0 rfl rfl dX8_doRegisters_187 ?_
                    refine lv_iload_n hx hb dX8_doRegisters_190 rfl (lv_at hl 4 rfl) ?_
                    refine lv_aload_n hx hb dX8_doRegisters_191 rfl (lv_at hl 2 rfl) ?_
                    refine lv_iload_n hx hb dX8_doRegisters_192 rfl (lv_at hl 3 rfl) ?_
                    refine lv_bipush (v := 26) hx hb dX8_doRegisters_193 (by decide) ?_
                    refine lv_icmp_ne (tgt := 208) hx hb dX8_doRegisters_195 (by decide) (fun c_140 => ?_) (fun c_140 => ?_)
                    · skip
                      rw [if_neg c_140] at hF
                      rw [if_neg c_140] at hs
                      refine lv_iload hx hb dX8_doRegisters_208 (lv_at hl 1 rfl) ?_
                      refine lv_i2l hx hb dX8_doRegisters_210 rfl ?_
                      refine lv_iload hx hb dX8_doRegisters_211 (lv_at hl 0 rfl) ?_
                      refine lv_i2l hx hb dX8_doRegisters_213 rfl ?_
                      refine lv_lsub hx hb dX8_doRegisters_214 ?_
                      refine q_Vi (rest := [.int p2, .ref a_this_reg]) (c_X8_summed l D a_this a_this_bytes a_this_keys a_this_reg a_this_card a_this_filled a_this_taken a_this_line a_this_one a_this_two w_127 (((r_this_reg p2.toNatClampNeg).toInt64) - ((r_this_reg p3.toNatClampNeg).toInt64))) cv_X8_summed hx hb hml hown ht hN hK hA hP hD hS hl.1 (km_X8_135) ⟨Nat.le_of_ble_eq_true rfl, Nat.le_of_ble_eq_true rfl⟩ rfl rfl [0] (by decide) rfl [] rfl (fun _ => rfl) (ci := 8) rfl rfl rfl rfl rfl (Nat.le_of_ble_eq_true rfl) dX8_doRegisters_215 ⟨Nat.zero_le _, Nat.zero_le _⟩ (fun r w_141 H locs hw hP hD hS => ?_)
                      obtain ⟨hw, hr⟩ := hw
                      subst hr
                      have hP : va_P D vwCl [(a_this, oX8 a_this_bytes a_this_keys a_this_reg a_this_card a_this_filled a_this_taken a_this_line a_this_one a_this_two w_141.2), (a_this_bytes, .inl (k_this_bytes, 2048, .inl r_this_bytes)), (a_this_keys, .inl (k_this_keys, 8, .inl r_this_keys)), (a_this_reg, .inl (k_this_reg, 16, .inl r_this_reg))] H := hP
                      have hD : va_D A [(a_this, oX8 a_this_bytes a_this_keys a_this_reg a_this_card a_this_filled a_this_taken a_this_line a_this_one a_this_two w_141.2), (a_this_bytes, .inl (k_this_bytes, 2048, .inl r_this_bytes)), (a_this_keys, .inl (k_this_keys, 8, .inl r_this_keys)), (a_this_reg, .inl (k_this_reg, 16, .inl r_this_reg))] := hD
                      rw [q_let_of hw] at hF
                      rw [q_let_of hw] at hs
                      have hi_142 := hs
                      refine va_iast hx hb hK hP hD hS 3 2 rfl rfl hi_142 dX8_doRegisters_218 (fun H locs hP hD hS => ?_)
                      have hP : va_P D vwCl [(a_this, oX8 a_this_bytes a_this_keys a_this_reg a_this_card a_this_filled a_this_taken a_this_line a_this_one a_this_two w_141.2), (a_this_bytes, .inl (k_this_bytes, 2048, .inl r_this_bytes)), (a_this_keys, .inl (k_this_keys, 8, .inl r_this_keys)), (a_this_reg, .inl (k_this_reg, 16, .inl (upd r_this_reg p2.toNatClampNeg w_141.1)))] H := hP
                      have hD : va_D A [(a_this, oX8 a_this_bytes a_this_keys a_this_reg a_this_card a_this_filled a_this_taken a_this_line a_this_one a_this_two w_141.2), (a_this_bytes, .inl (k_this_bytes, 2048, .inl r_this_bytes)), (a_this_keys, .inl (k_this_keys, 8, .inl r_this_keys)), (a_this_reg, .inl (k_this_reg, 16, .inl (upd r_this_reg p2.toNatClampNeg w_141.1)))] := hD
                      refine lv_goto (tgt := 276) hx hb dX8_doRegisters_219 (by decide) ?_
                      exact hQ (w_141.2, r_this_bytes, r_this_keys, (upd r_this_reg p2.toNatClampNeg w_141.1)) _ _ _ _ dX8_doRegisters_276 hF.symm hP hD hS
                    · skip
                      rw [if_pos c_140] at hF
                      rw [if_pos c_140] at hs
                      refine lv_iload hx hb dX8_doRegisters_198 (lv_at hl 1 rfl) ?_
                      refine lv_i2l hx hb dX8_doRegisters_200 rfl ?_
                      refine lv_iload hx hb dX8_doRegisters_201 (lv_at hl 0 rfl) ?_
                      refine lv_i2l hx hb dX8_doRegisters_203 rfl ?_
                      refine lv_ladd hx hb dX8_doRegisters_204 ?_
                      refine lv_goto (tgt := 215) hx hb dX8_doRegisters_205 (by decide) ?_
                      refine q_Vi (rest := [.int p2, .ref a_this_reg]) (c_X8_summed l D a_this a_this_bytes a_this_keys a_this_reg a_this_card a_this_filled a_this_taken a_this_line a_this_one a_this_two w_127 (((r_this_reg p2.toNatClampNeg).toInt64) + ((r_this_reg p3.toNatClampNeg).toInt64))) cv_X8_summed hx hb hml hown ht hN hK hA hP hD hS hl.1 (km_X8_135) ⟨Nat.le_of_ble_eq_true rfl, Nat.le_of_ble_eq_true rfl⟩ rfl rfl [0] (by decide) rfl [] rfl (fun _ => rfl) (ci := 8) rfl rfl rfl rfl rfl (Nat.le_of_ble_eq_true rfl) dX8_doRegisters_215 ⟨Nat.zero_le _, Nat.zero_le _⟩ (fun r w_143 H locs hw hP hD hS => ?_)
                      obtain ⟨hw, hr⟩ := hw
                      subst hr
                      have hP : va_P D vwCl [(a_this, oX8 a_this_bytes a_this_keys a_this_reg a_this_card a_this_filled a_this_taken a_this_line a_this_one a_this_two w_143.2), (a_this_bytes, .inl (k_this_bytes, 2048, .inl r_this_bytes)), (a_this_keys, .inl (k_this_keys, 8, .inl r_this_keys)), (a_this_reg, .inl (k_this_reg, 16, .inl r_this_reg))] H := hP
                      have hD : va_D A [(a_this, oX8 a_this_bytes a_this_keys a_this_reg a_this_card a_this_filled a_this_taken a_this_line a_this_one a_this_two w_143.2), (a_this_bytes, .inl (k_this_bytes, 2048, .inl r_this_bytes)), (a_this_keys, .inl (k_this_keys, 8, .inl r_this_keys)), (a_this_reg, .inl (k_this_reg, 16, .inl r_this_reg))] := hD
                      rw [q_let_of hw] at hF
                      rw [q_let_of hw] at hs
                      have hi_144 := hs
                      refine va_iast hx hb hK hP hD hS 3 2 rfl rfl hi_144 dX8_doRegisters_218 (fun H locs hP hD hS => ?_)
                      have hP : va_P D vwCl [(a_this, oX8 a_this_bytes a_this_keys a_this_reg a_this_card a_this_filled a_this_taken a_this_line a_this_one a_this_two w_143.2), (a_this_bytes, .inl (k_this_bytes, 2048, .inl r_this_bytes)), (a_this_keys, .inl (k_this_keys, 8, .inl r_this_keys)), (a_this_reg, .inl (k_this_reg, 16, .inl (upd r_this_reg p2.toNatClampNeg w_143.1)))] H := hP
                      have hD : va_D A [(a_this, oX8 a_this_bytes a_this_keys a_this_reg a_this_card a_this_filled a_this_taken a_this_line a_this_one a_this_two w_143.2), (a_this_bytes, .inl (k_this_bytes, 2048, .inl r_this_bytes)), (a_this_keys, .inl (k_this_keys, 8, .inl r_this_keys)), (a_this_reg, .inl (k_this_reg, 16, .inl (upd r_this_reg p2.toNatClampNeg w_143.1)))] := hD
                      refine lv_goto (tgt := 276) hx hb dX8_doRegisters_219 (by decide) ?_
                      exact hQ (w_143.2, r_this_bytes, r_this_keys, (upd r_this_reg p2.toNatClampNeg w_143.1)) _ _ _ _ dX8_doRegisters_276 hF.symm hP hD hS
                · skip
                  rw [if_pos c_132] at hF
                  rw [if_pos c_132] at hs
                  refine lv_aload_n hx hb dX8_doRegisters_169 rfl (lv_at hl 2 rfl) ?_
                  refine lv_iload hx hb dX8_doRegisters_170 (lv_at hl 1 rfl) ?_
                  refine lv_iload hx hb dX8_doRegisters_172 (lv_at hl 0 rfl) ?_
                  refine q_Vv (rest := []) (c_X8_compared l D a_this a_this_bytes a_this_keys a_this_reg a_this_card a_this_filled a_this_taken a_this_line a_this_one a_this_two w_127 (r_this_reg p2.toNatClampNeg) (r_this_reg p3.toNatClampNeg)) cv_X8_compared hx hb hml hown ht hN hK hA hP hD hS hl.1 (km_X8_131) ⟨Nat.le_of_ble_eq_true rfl, Nat.le_of_ble_eq_true rfl⟩ rfl rfl [0] (by decide) rfl [] rfl (fun _ => rfl) (ci := 8) rfl rfl rfl rfl rfl (Nat.le_of_ble_eq_true rfl) dX8_doRegisters_174 ⟨Nat.zero_le _, Nat.zero_le _⟩ (fun w_145 H locs hw hP hD hS => ?_)
                  have hP : va_P D vwCl [(a_this, oX8 a_this_bytes a_this_keys a_this_reg a_this_card a_this_filled a_this_taken a_this_line a_this_one a_this_two w_145), (a_this_bytes, .inl (k_this_bytes, 2048, .inl r_this_bytes)), (a_this_keys, .inl (k_this_keys, 8, .inl r_this_keys)), (a_this_reg, .inl (k_this_reg, 16, .inl r_this_reg))] H := hP
                  have hD : va_D A [(a_this, oX8 a_this_bytes a_this_keys a_this_reg a_this_card a_this_filled a_this_taken a_this_line a_this_one a_this_two w_145), (a_this_bytes, .inl (k_this_bytes, 2048, .inl r_this_bytes)), (a_this_keys, .inl (k_this_keys, 8, .inl r_this_keys)), (a_this_reg, .inl (k_this_reg, 16, .inl r_this_reg))] := hD
                  rw [q_let_of hw] at hF
                  refine lv_goto (tgt := 276) hx hb dX8_doRegisters_177 (by decide) ?_
                  exact hQ (w_145, r_this_bytes, r_this_keys, r_this_reg) _ _ _ _ dX8_doRegisters_276 hF.symm hP hD hS
              · skip
                rw [if_pos c_131] at hF
                rw [if_pos c_131] at hs
                refine lv_aload_n hx hb dX8_doRegisters_152 rfl (lv_at hl 2 rfl) ?_
                refine gf_X8_16 (v := .ref a_this_reg) hx hb hown ht hK hP 0 rfl rfl dX8_doRegisters_153 ?_
                refine lv_iload_n hx hb dX8_doRegisters_156 rfl (lv_at hl 4 rfl) ?_
                refine lv_iload hx hb dX8_doRegisters_157 (lv_at hl 0 rfl) ?_
                have hi_146 := hs
                refine va_iast hx hb hK hP hD hS 3 2 rfl rfl hi_146 dX8_doRegisters_159 (fun H locs hP hD hS => ?_)
                have hP : va_P D vwCl [(a_this, oX8 a_this_bytes a_this_keys a_this_reg a_this_card a_this_filled a_this_taken a_this_line a_this_one a_this_two w_127), (a_this_bytes, .inl (k_this_bytes, 2048, .inl r_this_bytes)), (a_this_keys, .inl (k_this_keys, 8, .inl r_this_keys)), (a_this_reg, .inl (k_this_reg, 16, .inl (upd r_this_reg p2.toNatClampNeg (r_this_reg p3.toNatClampNeg))))] H := hP
                have hD : va_D A [(a_this, oX8 a_this_bytes a_this_keys a_this_reg a_this_card a_this_filled a_this_taken a_this_line a_this_one a_this_two w_127), (a_this_bytes, .inl (k_this_bytes, 2048, .inl r_this_bytes)), (a_this_keys, .inl (k_this_keys, 8, .inl r_this_keys)), (a_this_reg, .inl (k_this_reg, 16, .inl (upd r_this_reg p2.toNatClampNeg (r_this_reg p3.toNatClampNeg))))] := hD
                refine lv_goto (tgt := 276) hx hb dX8_doRegisters_160 (by decide) ?_
                exact hQ (w_127, r_this_bytes, r_this_keys, (upd r_this_reg p2.toNatClampNeg (r_this_reg p3.toNatClampNeg))) _ _ _ _ dX8_doRegisters_276 hF.symm hP hD hS
            · skip
              rw [if_neg c_130] at hF
              rw [if_neg c_130] at hs
              refine lv_aload_n hx hb dX8_doRegisters_76 rfl (lv_at hl 2 rfl) ?_
              refine gf_X8_16 (v := .ref a_this_reg) hx hb hown ht hK hP 0 rfl rfl dX8_doRegisters_77 ?_
              refine lv_iload_n hx hb dX8_doRegisters_80 rfl (lv_at hl 4 rfl) ?_
              refine lv_iload_n hx hb dX8_doRegisters_81 rfl (lv_at hl 3 rfl) ?_
              refine lv_bipush (v := 18) hx hb dX8_doRegisters_82 (by decide) ?_
              refine lv_icmp_ne (tgt := 92) hx hb dX8_doRegisters_84 (by decide) (fun c_147 => ?_) (fun c_147 => ?_)
              · skip
                rw [if_neg c_147] at hF
                rw [if_neg c_147] at hs
                refine lv_aload_n hx hb dX8_doRegisters_92 rfl (lv_at hl 2 rfl) ?_
                refine lv_iload_n hx hb dX8_doRegisters_93 rfl (lv_at hl 3 rfl) ?_
                refine lv_bipush (v := 20) hx hb dX8_doRegisters_94 (by decide) ?_
                refine lv_icmp_ne (tgt := 107) hx hb dX8_doRegisters_96 (by decide) (fun c_148 => ?_) (fun c_148 => ?_)
                · skip
                  rw [if_neg c_148] at hF
                  rw [if_neg c_148] at hs
                  refine lv_iload_n hx hb dX8_doRegisters_107 rfl (lv_at hl 3 rfl) ?_
                  refine lv_bipush (v := 22) hx hb dX8_doRegisters_108 (by decide) ?_
                  refine lv_icmp_ne (tgt := 121) hx hb dX8_doRegisters_110 (by decide) (fun c_149 => ?_) (fun c_149 => ?_)
                  · skip
                    rw [if_neg c_149] at hF
                    rw [if_neg c_149] at hs
                    refine lv_iload hx hb dX8_doRegisters_121 (lv_at hl 1 rfl) ?_
                    refine lv_iload hx hb dX8_doRegisters_123 (lv_at hl 0 rfl) ?_
                    refine lv_ixor hx hb dX8_doRegisters_125 ?_
                    refine q_Vi (rest := [.int p2, .ref a_this_reg]) (c_X8_logic l D a_this a_this_bytes a_this_keys a_this_reg a_this_card a_this_filled a_this_taken a_this_line a_this_one a_this_two w_127 ((r_this_reg p2.toNatClampNeg) ^^^ (r_this_reg p3.toNatClampNeg))) cv_X8_logic hx hb hml hown ht hN hK hA hP hD hS hl.1 (km_X8_128) ⟨Nat.le_of_ble_eq_true rfl, Nat.le_of_ble_eq_true rfl⟩ rfl rfl [0] (by decide) rfl [] rfl (fun _ => rfl) (ci := 8) rfl rfl rfl rfl rfl (Nat.le_of_ble_eq_true rfl) dX8_doRegisters_126 ⟨Nat.zero_le _, Nat.zero_le _⟩ (fun r w_150 H locs hw hP hD hS => ?_)
                    obtain ⟨hw, hr⟩ := hw
                    subst hr
                    have hP : va_P D vwCl [(a_this, oX8 a_this_bytes a_this_keys a_this_reg a_this_card a_this_filled a_this_taken a_this_line a_this_one a_this_two w_150.2), (a_this_bytes, .inl (k_this_bytes, 2048, .inl r_this_bytes)), (a_this_keys, .inl (k_this_keys, 8, .inl r_this_keys)), (a_this_reg, .inl (k_this_reg, 16, .inl r_this_reg))] H := hP
                    have hD : va_D A [(a_this, oX8 a_this_bytes a_this_keys a_this_reg a_this_card a_this_filled a_this_taken a_this_line a_this_one a_this_two w_150.2), (a_this_bytes, .inl (k_this_bytes, 2048, .inl r_this_bytes)), (a_this_keys, .inl (k_this_keys, 8, .inl r_this_keys)), (a_this_reg, .inl (k_this_reg, 16, .inl r_this_reg))] := hD
                    rw [q_let_of hw] at hF
                    rw [q_let_of hw] at hs
                    have hi_151 := hs
                    refine va_iast hx hb hK hP hD hS 3 2 rfl rfl hi_151 dX8_doRegisters_129 (fun H locs hP hD hS => ?_)
                    have hP : va_P D vwCl [(a_this, oX8 a_this_bytes a_this_keys a_this_reg a_this_card a_this_filled a_this_taken a_this_line a_this_one a_this_two w_150.2), (a_this_bytes, .inl (k_this_bytes, 2048, .inl r_this_bytes)), (a_this_keys, .inl (k_this_keys, 8, .inl r_this_keys)), (a_this_reg, .inl (k_this_reg, 16, .inl (upd r_this_reg p2.toNatClampNeg w_150.1)))] H := hP
                    have hD : va_D A [(a_this, oX8 a_this_bytes a_this_keys a_this_reg a_this_card a_this_filled a_this_taken a_this_line a_this_one a_this_two w_150.2), (a_this_bytes, .inl (k_this_bytes, 2048, .inl r_this_bytes)), (a_this_keys, .inl (k_this_keys, 8, .inl r_this_keys)), (a_this_reg, .inl (k_this_reg, 16, .inl (upd r_this_reg p2.toNatClampNeg w_150.1)))] := hD
                    refine lv_iload_n hx hb dX8_doRegisters_130 rfl (lv_at hl 3 rfl) ?_
                    refine lv_bipush (v := 18) hx hb dX8_doRegisters_131 (by decide) ?_
                    refine lv_icmp_ne (tgt := 276) hx hb dX8_doRegisters_133 (by decide) (fun c_152 => ?_) (fun c_152 => ?_)
                    · skip
                      rw [if_neg c_152] at hF
                      exact hQ (w_150.2, r_this_bytes, r_this_keys, (upd r_this_reg p2.toNatClampNeg w_150.1)) _ _ _ _ dX8_doRegisters_276 hF.symm hP hD hS
                    · skip
                      rw [if_pos c_152] at hF
                      refine lv_aload_n hx hb dX8_doRegisters_136 rfl (lv_at hl 2 rfl) ?_
                      refine lv_iload hx hb dX8_doRegisters_137 (lv_at hl 0 rfl) ?_
                      refine lv_i2l hx hb dX8_doRegisters_139 rfl ?_
                      refine q_Vv (rest := []) (c_X8_sign l D a_this a_this_bytes a_this_keys a_this_reg a_this_card a_this_filled a_this_taken a_this_line a_this_one a_this_two w_150.2 ((r_this_reg p3.toNatClampNeg).toInt64)) cv_X8_sign hx hb hml hown ht hN hK hA hP hD hS hl.1 (km_X8_120) ⟨Nat.le_of_ble_eq_true rfl, Nat.le_of_ble_eq_true rfl⟩ rfl rfl [0] (by decide) rfl [] rfl (fun _ => rfl) (ci := 8) rfl rfl rfl rfl rfl (Nat.le_of_ble_eq_true rfl) dX8_doRegisters_140 ⟨Nat.zero_le _, Nat.zero_le _⟩ (fun w_153 H locs hw hP hD hS => ?_)
                      have hP : va_P D vwCl [(a_this, oX8 a_this_bytes a_this_keys a_this_reg a_this_card a_this_filled a_this_taken a_this_line a_this_one a_this_two w_153), (a_this_bytes, .inl (k_this_bytes, 2048, .inl r_this_bytes)), (a_this_keys, .inl (k_this_keys, 8, .inl r_this_keys)), (a_this_reg, .inl (k_this_reg, 16, .inl (upd r_this_reg p2.toNatClampNeg w_150.1)))] H := hP
                      have hD : va_D A [(a_this, oX8 a_this_bytes a_this_keys a_this_reg a_this_card a_this_filled a_this_taken a_this_line a_this_one a_this_two w_153), (a_this_bytes, .inl (k_this_bytes, 2048, .inl r_this_bytes)), (a_this_keys, .inl (k_this_keys, 8, .inl r_this_keys)), (a_this_reg, .inl (k_this_reg, 16, .inl (upd r_this_reg p2.toNatClampNeg w_150.1)))] := hD
                      rw [q_let_of hw] at hF
                      refine lv_goto (tgt := 276) hx hb dX8_doRegisters_143 (by decide) ?_
                      exact hQ (w_153, r_this_bytes, r_this_keys, (upd r_this_reg p2.toNatClampNeg w_150.1)) _ _ _ _ dX8_doRegisters_276 hF.symm hP hD hS
                  · skip
                    rw [if_pos c_149] at hF
                    rw [if_pos c_149] at hs
                    refine lv_iload hx hb dX8_doRegisters_113 (lv_at hl 1 rfl) ?_
                    refine lv_iload hx hb dX8_doRegisters_115 (lv_at hl 0 rfl) ?_
                    refine lv_ior hx hb dX8_doRegisters_117 ?_
                    refine lv_goto (tgt := 126) hx hb dX8_doRegisters_118 (by decide) ?_
                    refine q_Vi (rest := [.int p2, .ref a_this_reg]) (c_X8_logic l D a_this a_this_bytes a_this_keys a_this_reg a_this_card a_this_filled a_this_taken a_this_line a_this_one a_this_two w_127 ((r_this_reg p2.toNatClampNeg) ||| (r_this_reg p3.toNatClampNeg))) cv_X8_logic hx hb hml hown ht hN hK hA hP hD hS hl.1 (km_X8_128) ⟨Nat.le_of_ble_eq_true rfl, Nat.le_of_ble_eq_true rfl⟩ rfl rfl [0] (by decide) rfl [] rfl (fun _ => rfl) (ci := 8) rfl rfl rfl rfl rfl (Nat.le_of_ble_eq_true rfl) dX8_doRegisters_126 ⟨Nat.zero_le _, Nat.zero_le _⟩ (fun r w_154 H locs hw hP hD hS => ?_)
                    obtain ⟨hw, hr⟩ := hw
                    subst hr
                    have hP : va_P D vwCl [(a_this, oX8 a_this_bytes a_this_keys a_this_reg a_this_card a_this_filled a_this_taken a_this_line a_this_one a_this_two w_154.2), (a_this_bytes, .inl (k_this_bytes, 2048, .inl r_this_bytes)), (a_this_keys, .inl (k_this_keys, 8, .inl r_this_keys)), (a_this_reg, .inl (k_this_reg, 16, .inl r_this_reg))] H := hP
                    have hD : va_D A [(a_this, oX8 a_this_bytes a_this_keys a_this_reg a_this_card a_this_filled a_this_taken a_this_line a_this_one a_this_two w_154.2), (a_this_bytes, .inl (k_this_bytes, 2048, .inl r_this_bytes)), (a_this_keys, .inl (k_this_keys, 8, .inl r_this_keys)), (a_this_reg, .inl (k_this_reg, 16, .inl r_this_reg))] := hD
                    rw [q_let_of hw] at hF
                    rw [q_let_of hw] at hs
                    have hi_155 := hs
                    refine va_iast hx hb hK hP hD hS 3 2 rfl rfl hi_155 dX8_doRegisters_129 (fun H locs hP hD hS => ?_)
                    have hP : va_P D vwCl [(a_this, oX8 a_this_bytes a_this_keys a_this_reg a_this_card a_this_filled a_this_taken a_this_line a_this_one a_this_two w_154.2), (a_this_bytes, .inl (k_this_bytes, 2048, .inl r_this_bytes)), (a_this_keys, .inl (k_this_keys, 8, .inl r_this_keys)), (a_this_reg, .inl (k_this_reg, 16, .inl (upd r_this_reg p2.toNatClampNeg w_154.1)))] H := hP
                    have hD : va_D A [(a_this, oX8 a_this_bytes a_this_keys a_this_reg a_this_card a_this_filled a_this_taken a_this_line a_this_one a_this_two w_154.2), (a_this_bytes, .inl (k_this_bytes, 2048, .inl r_this_bytes)), (a_this_keys, .inl (k_this_keys, 8, .inl r_this_keys)), (a_this_reg, .inl (k_this_reg, 16, .inl (upd r_this_reg p2.toNatClampNeg w_154.1)))] := hD
                    refine lv_iload_n hx hb dX8_doRegisters_130 rfl (lv_at hl 3 rfl) ?_
                    refine lv_bipush (v := 18) hx hb dX8_doRegisters_131 (by decide) ?_
                    refine lv_icmp_ne (tgt := 276) hx hb dX8_doRegisters_133 (by decide) (fun c_156 => ?_) (fun c_156 => ?_)
                    · skip
                      rw [if_neg c_156] at hF
                      exact hQ (w_154.2, r_this_bytes, r_this_keys, (upd r_this_reg p2.toNatClampNeg w_154.1)) _ _ _ _ dX8_doRegisters_276 hF.symm hP hD hS
                    · skip
                      rw [if_pos c_156] at hF
                      refine lv_aload_n hx hb dX8_doRegisters_136 rfl (lv_at hl 2 rfl) ?_
                      refine lv_iload hx hb dX8_doRegisters_137 (lv_at hl 0 rfl) ?_
                      refine lv_i2l hx hb dX8_doRegisters_139 rfl ?_
                      refine q_Vv (rest := []) (c_X8_sign l D a_this a_this_bytes a_this_keys a_this_reg a_this_card a_this_filled a_this_taken a_this_line a_this_one a_this_two w_154.2 ((r_this_reg p3.toNatClampNeg).toInt64)) cv_X8_sign hx hb hml hown ht hN hK hA hP hD hS hl.1 (km_X8_120) ⟨Nat.le_of_ble_eq_true rfl, Nat.le_of_ble_eq_true rfl⟩ rfl rfl [0] (by decide) rfl [] rfl (fun _ => rfl) (ci := 8) rfl rfl rfl rfl rfl (Nat.le_of_ble_eq_true rfl) dX8_doRegisters_140 ⟨Nat.zero_le _, Nat.zero_le _⟩ (fun w_157 H locs hw hP hD hS => ?_)
                      have hP : va_P D vwCl [(a_this, oX8 a_this_bytes a_this_keys a_this_reg a_this_card a_this_filled a_this_taken a_this_line a_this_one a_this_two w_157), (a_this_bytes, .inl (k_this_bytes, 2048, .inl r_this_bytes)), (a_this_keys, .inl (k_this_keys, 8, .inl r_this_keys)), (a_this_reg, .inl (k_this_reg, 16, .inl (upd r_this_reg p2.toNatClampNeg w_154.1)))] H := hP
                      have hD : va_D A [(a_this, oX8 a_this_bytes a_this_keys a_this_reg a_this_card a_this_filled a_this_taken a_this_line a_this_one a_this_two w_157), (a_this_bytes, .inl (k_this_bytes, 2048, .inl r_this_bytes)), (a_this_keys, .inl (k_this_keys, 8, .inl r_this_keys)), (a_this_reg, .inl (k_this_reg, 16, .inl (upd r_this_reg p2.toNatClampNeg w_154.1)))] := hD
                      rw [q_let_of hw] at hF
                      refine lv_goto (tgt := 276) hx hb dX8_doRegisters_143 (by decide) ?_
                      exact hQ (w_157, r_this_bytes, r_this_keys, (upd r_this_reg p2.toNatClampNeg w_154.1)) _ _ _ _ dX8_doRegisters_276 hF.symm hP hD hS
                · skip
                  rw [if_pos c_148] at hF
                  rw [if_pos c_148] at hs
                  refine lv_iload hx hb dX8_doRegisters_99 (lv_at hl 1 rfl) ?_
                  refine lv_iload hx hb dX8_doRegisters_101 (lv_at hl 0 rfl) ?_
                  refine lv_iand hx hb dX8_doRegisters_103 ?_
                  refine lv_goto (tgt := 126) hx hb dX8_doRegisters_104 (by decide) ?_
                  refine q_Vi (rest := [.int p2, .ref a_this_reg]) (c_X8_logic l D a_this a_this_bytes a_this_keys a_this_reg a_this_card a_this_filled a_this_taken a_this_line a_this_one a_this_two w_127 ((r_this_reg p2.toNatClampNeg) &&& (r_this_reg p3.toNatClampNeg))) cv_X8_logic hx hb hml hown ht hN hK hA hP hD hS hl.1 (km_X8_128) ⟨Nat.le_of_ble_eq_true rfl, Nat.le_of_ble_eq_true rfl⟩ rfl rfl [0] (by decide) rfl [] rfl (fun _ => rfl) (ci := 8) rfl rfl rfl rfl rfl (Nat.le_of_ble_eq_true rfl) dX8_doRegisters_126 ⟨Nat.zero_le _, Nat.zero_le _⟩ (fun r w_158 H locs hw hP hD hS => ?_)
                  obtain ⟨hw, hr⟩ := hw
                  subst hr
                  have hP : va_P D vwCl [(a_this, oX8 a_this_bytes a_this_keys a_this_reg a_this_card a_this_filled a_this_taken a_this_line a_this_one a_this_two w_158.2), (a_this_bytes, .inl (k_this_bytes, 2048, .inl r_this_bytes)), (a_this_keys, .inl (k_this_keys, 8, .inl r_this_keys)), (a_this_reg, .inl (k_this_reg, 16, .inl r_this_reg))] H := hP
                  have hD : va_D A [(a_this, oX8 a_this_bytes a_this_keys a_this_reg a_this_card a_this_filled a_this_taken a_this_line a_this_one a_this_two w_158.2), (a_this_bytes, .inl (k_this_bytes, 2048, .inl r_this_bytes)), (a_this_keys, .inl (k_this_keys, 8, .inl r_this_keys)), (a_this_reg, .inl (k_this_reg, 16, .inl r_this_reg))] := hD
                  rw [q_let_of hw] at hF
                  rw [q_let_of hw] at hs
                  have hi_159 := hs
                  refine va_iast hx hb hK hP hD hS 3 2 rfl rfl hi_159 dX8_doRegisters_129 (fun H locs hP hD hS => ?_)
                  have hP : va_P D vwCl [(a_this, oX8 a_this_bytes a_this_keys a_this_reg a_this_card a_this_filled a_this_taken a_this_line a_this_one a_this_two w_158.2), (a_this_bytes, .inl (k_this_bytes, 2048, .inl r_this_bytes)), (a_this_keys, .inl (k_this_keys, 8, .inl r_this_keys)), (a_this_reg, .inl (k_this_reg, 16, .inl (upd r_this_reg p2.toNatClampNeg w_158.1)))] H := hP
                  have hD : va_D A [(a_this, oX8 a_this_bytes a_this_keys a_this_reg a_this_card a_this_filled a_this_taken a_this_line a_this_one a_this_two w_158.2), (a_this_bytes, .inl (k_this_bytes, 2048, .inl r_this_bytes)), (a_this_keys, .inl (k_this_keys, 8, .inl r_this_keys)), (a_this_reg, .inl (k_this_reg, 16, .inl (upd r_this_reg p2.toNatClampNeg w_158.1)))] := hD
                  refine lv_iload_n hx hb dX8_doRegisters_130 rfl (lv_at hl 3 rfl) ?_
                  refine lv_bipush (v := 18) hx hb dX8_doRegisters_131 (by decide) ?_
                  refine lv_icmp_ne (tgt := 276) hx hb dX8_doRegisters_133 (by decide) (fun c_160 => ?_) (fun c_160 => ?_)
                  · skip
                    rw [if_neg c_160] at hF
                    exact hQ (w_158.2, r_this_bytes, r_this_keys, (upd r_this_reg p2.toNatClampNeg w_158.1)) _ _ _ _ dX8_doRegisters_276 hF.symm hP hD hS
                  · skip
                    rw [if_pos c_160] at hF
                    refine lv_aload_n hx hb dX8_doRegisters_136 rfl (lv_at hl 2 rfl) ?_
                    refine lv_iload hx hb dX8_doRegisters_137 (lv_at hl 0 rfl) ?_
                    refine lv_i2l hx hb dX8_doRegisters_139 rfl ?_
                    refine q_Vv (rest := []) (c_X8_sign l D a_this a_this_bytes a_this_keys a_this_reg a_this_card a_this_filled a_this_taken a_this_line a_this_one a_this_two w_158.2 ((r_this_reg p3.toNatClampNeg).toInt64)) cv_X8_sign hx hb hml hown ht hN hK hA hP hD hS hl.1 (km_X8_120) ⟨Nat.le_of_ble_eq_true rfl, Nat.le_of_ble_eq_true rfl⟩ rfl rfl [0] (by decide) rfl [] rfl (fun _ => rfl) (ci := 8) rfl rfl rfl rfl rfl (Nat.le_of_ble_eq_true rfl) dX8_doRegisters_140 ⟨Nat.zero_le _, Nat.zero_le _⟩ (fun w_161 H locs hw hP hD hS => ?_)
                    have hP : va_P D vwCl [(a_this, oX8 a_this_bytes a_this_keys a_this_reg a_this_card a_this_filled a_this_taken a_this_line a_this_one a_this_two w_161), (a_this_bytes, .inl (k_this_bytes, 2048, .inl r_this_bytes)), (a_this_keys, .inl (k_this_keys, 8, .inl r_this_keys)), (a_this_reg, .inl (k_this_reg, 16, .inl (upd r_this_reg p2.toNatClampNeg w_158.1)))] H := hP
                    have hD : va_D A [(a_this, oX8 a_this_bytes a_this_keys a_this_reg a_this_card a_this_filled a_this_taken a_this_line a_this_one a_this_two w_161), (a_this_bytes, .inl (k_this_bytes, 2048, .inl r_this_bytes)), (a_this_keys, .inl (k_this_keys, 8, .inl r_this_keys)), (a_this_reg, .inl (k_this_reg, 16, .inl (upd r_this_reg p2.toNatClampNeg w_158.1)))] := hD
                    rw [q_let_of hw] at hF
                    refine lv_goto (tgt := 276) hx hb dX8_doRegisters_143 (by decide) ?_
                    exact hQ (w_161, r_this_bytes, r_this_keys, (upd r_this_reg p2.toNatClampNeg w_158.1)) _ _ _ _ dX8_doRegisters_276 hF.symm hP hD hS
              · skip
                rw [if_pos c_147] at hF
                rw [if_pos c_147] at hs
                refine lv_iload hx hb dX8_doRegisters_87 (lv_at hl 0 rfl) ?_
                refine lv_goto (tgt := 129) hx hb dX8_doRegisters_89 (by decide) ?_
                have hi_162 := hs
                refine va_iast hx hb hK hP hD hS 3 2 rfl rfl hi_162 dX8_doRegisters_129 (fun H locs hP hD hS => ?_)
                have hP : va_P D vwCl [(a_this, oX8 a_this_bytes a_this_keys a_this_reg a_this_card a_this_filled a_this_taken a_this_line a_this_one a_this_two w_127), (a_this_bytes, .inl (k_this_bytes, 2048, .inl r_this_bytes)), (a_this_keys, .inl (k_this_keys, 8, .inl r_this_keys)), (a_this_reg, .inl (k_this_reg, 16, .inl (upd r_this_reg p2.toNatClampNeg (r_this_reg p3.toNatClampNeg))))] H := hP
                have hD : va_D A [(a_this, oX8 a_this_bytes a_this_keys a_this_reg a_this_card a_this_filled a_this_taken a_this_line a_this_one a_this_two w_127), (a_this_bytes, .inl (k_this_bytes, 2048, .inl r_this_bytes)), (a_this_keys, .inl (k_this_keys, 8, .inl r_this_keys)), (a_this_reg, .inl (k_this_reg, 16, .inl (upd r_this_reg p2.toNatClampNeg (r_this_reg p3.toNatClampNeg))))] := hD
                refine lv_iload_n hx hb dX8_doRegisters_130 rfl (lv_at hl 3 rfl) ?_
                refine lv_bipush (v := 18) hx hb dX8_doRegisters_131 (by decide) ?_
                refine lv_icmp_ne (tgt := 276) hx hb dX8_doRegisters_133 (by decide) (fun c_163 => ?_) (fun c_163 => ?_)
                · skip
                  rw [if_neg c_163] at hF
                  exact hQ (w_127, r_this_bytes, r_this_keys, (upd r_this_reg p2.toNatClampNeg (r_this_reg p3.toNatClampNeg))) _ _ _ _ dX8_doRegisters_276 hF.symm hP hD hS
                · skip
                  rw [if_pos c_163] at hF
                  refine lv_aload_n hx hb dX8_doRegisters_136 rfl (lv_at hl 2 rfl) ?_
                  refine lv_iload hx hb dX8_doRegisters_137 (lv_at hl 0 rfl) ?_
                  refine lv_i2l hx hb dX8_doRegisters_139 rfl ?_
                  refine q_Vv (rest := []) (c_X8_sign l D a_this a_this_bytes a_this_keys a_this_reg a_this_card a_this_filled a_this_taken a_this_line a_this_one a_this_two w_127 ((r_this_reg p3.toNatClampNeg).toInt64)) cv_X8_sign hx hb hml hown ht hN hK hA hP hD hS hl.1 (km_X8_120) ⟨Nat.le_of_ble_eq_true rfl, Nat.le_of_ble_eq_true rfl⟩ rfl rfl [0] (by decide) rfl [] rfl (fun _ => rfl) (ci := 8) rfl rfl rfl rfl rfl (Nat.le_of_ble_eq_true rfl) dX8_doRegisters_140 ⟨Nat.zero_le _, Nat.zero_le _⟩ (fun w_164 H locs hw hP hD hS => ?_)
                  have hP : va_P D vwCl [(a_this, oX8 a_this_bytes a_this_keys a_this_reg a_this_card a_this_filled a_this_taken a_this_line a_this_one a_this_two w_164), (a_this_bytes, .inl (k_this_bytes, 2048, .inl r_this_bytes)), (a_this_keys, .inl (k_this_keys, 8, .inl r_this_keys)), (a_this_reg, .inl (k_this_reg, 16, .inl (upd r_this_reg p2.toNatClampNeg (r_this_reg p3.toNatClampNeg))))] H := hP
                  have hD : va_D A [(a_this, oX8 a_this_bytes a_this_keys a_this_reg a_this_card a_this_filled a_this_taken a_this_line a_this_one a_this_two w_164), (a_this_bytes, .inl (k_this_bytes, 2048, .inl r_this_bytes)), (a_this_keys, .inl (k_this_keys, 8, .inl r_this_keys)), (a_this_reg, .inl (k_this_reg, 16, .inl (upd r_this_reg p2.toNatClampNeg (r_this_reg p3.toNatClampNeg))))] := hD
                  rw [q_let_of hw] at hF
                  refine lv_goto (tgt := 276) hx hb dX8_doRegisters_143 (by decide) ?_
                  exact hQ (w_164, r_this_bytes, r_this_keys, (upd r_this_reg p2.toNatClampNeg (r_this_reg p3.toNatClampNeg))) _ _ _ _ dX8_doRegisters_276 hF.symm hP hD hS
          · skip
            rw [if_neg c_129] at hF
            rw [if_neg c_129] at hs
            refine lv_aload_n hx hb dX8_doRegisters_60 rfl (lv_at hl 2 rfl) ?_
            refine lv_iload_n hx hb dX8_doRegisters_61 rfl (lv_at hl 3 rfl) ?_
            refine lv_iload_n hx hb dX8_doRegisters_62 rfl (lv_at hl 4 rfl) ?_
            refine lv_iload_n hx hb dX8_doRegisters_63 rfl (lv_at hl 5 rfl) ?_
            have hi_165 := hs
            refine q_Vv (rest := []) (c_X8_control l D a_this a_this_bytes a_this_keys a_this_reg a_this_card a_this_filled a_this_taken a_this_line a_this_one a_this_two k_this_bytes k_this_keys k_this_reg w_127 r_this_bytes r_this_keys r_this_reg p1 p2 p3 hi_165) cv_X8_control hx hb hml hown ht hN hK hA hP hD hS hl.1 (km_X8_125) ⟨Nat.le_of_ble_eq_true rfl, Nat.le_of_ble_eq_true rfl⟩ rfl rfl [0, 1, 2, 3] (by decide) rfl [0, 1, 2] rfl (fun _ => rfl) (ci := 8) rfl rfl rfl rfl rfl (Nat.le_of_ble_eq_true rfl) dX8_doRegisters_64 ⟨Nat.zero_le _, Nat.zero_le _⟩ (fun w_166 H locs hw hP hD hS => ?_)
            have hP : va_P D vwCl [(a_this, oX8 a_this_bytes a_this_keys a_this_reg a_this_card a_this_filled a_this_taken a_this_line a_this_one a_this_two w_166.1), (a_this_bytes, .inl (k_this_bytes, 2048, .inl w_166.2.1)), (a_this_keys, .inl (k_this_keys, 8, .inl w_166.2.2.1)), (a_this_reg, .inl (k_this_reg, 16, .inl w_166.2.2.2))] H := hP
            have hD : va_D A [(a_this, oX8 a_this_bytes a_this_keys a_this_reg a_this_card a_this_filled a_this_taken a_this_line a_this_one a_this_two w_166.1), (a_this_bytes, .inl (k_this_bytes, 2048, .inl w_166.2.1)), (a_this_keys, .inl (k_this_keys, 8, .inl w_166.2.2.1)), (a_this_reg, .inl (k_this_reg, 16, .inl w_166.2.2.2))] := hD
            rw [q_let_of hw] at hF
            refine lv_goto (tgt := 276) hx hb dX8_doRegisters_67 (by decide) ?_
            exact hQ (w_166.1, w_166.2.1, w_166.2.2.1, w_166.2.2.2) _ _ _ _ dX8_doRegisters_276 hF.symm hP hD hS
        · skip
          rw [if_neg c_128] at hF
          rw [if_neg c_128] at hs
          exact hQ (w_127, r_this_bytes, r_this_keys, r_this_reg) _ _ _ _ dX8_doRegisters_53 hF.symm hP hD hS
      · skip
        rw [if_pos c_126] at hF
        rw [if_pos c_126] at hs
        refine lv_iconst (v := 1) hx hb dX8_doRegisters_36 (by decide) ?_
        refine lv_goto (tgt := 41) hx hb dX8_doRegisters_37 (by decide) ?_
        refine lv_bipush (v := 6) hx hb dX8_doRegisters_41 (by decide) ?_
        refine q_Vv (rest := []) (c_X8_wrong l D a_this a_this_bytes a_this_keys a_this_reg a_this_card a_this_filled a_this_taken a_this_line a_this_one a_this_two o_this true 6) cv_X8_wrong hx hb hml hown ht hN hK hA hP hD hS hl.1 (km_X8_42) ⟨Nat.le_of_ble_eq_true rfl, Nat.le_of_ble_eq_true rfl⟩ rfl rfl [0] (by decide) rfl [] rfl (fun _ => rfl) (ci := 8) rfl rfl rfl rfl rfl (Nat.le_of_ble_eq_true rfl) dX8_doRegisters_43 ⟨Nat.zero_le _, Nat.zero_le _⟩ (fun w_167 H locs hw hP hD hS => ?_)
        have hP : va_P D vwCl [(a_this, oX8 a_this_bytes a_this_keys a_this_reg a_this_card a_this_filled a_this_taken a_this_line a_this_one a_this_two w_167), (a_this_bytes, .inl (k_this_bytes, 2048, .inl r_this_bytes)), (a_this_keys, .inl (k_this_keys, 8, .inl r_this_keys)), (a_this_reg, .inl (k_this_reg, 16, .inl r_this_reg))] H := hP
        have hD : va_D A [(a_this, oX8 a_this_bytes a_this_keys a_this_reg a_this_card a_this_filled a_this_taken a_this_line a_this_one a_this_two w_167), (a_this_bytes, .inl (k_this_bytes, 2048, .inl r_this_bytes)), (a_this_keys, .inl (k_this_keys, 8, .inl r_this_keys)), (a_this_reg, .inl (k_this_reg, 16, .inl r_this_reg))] := hD
        rw [q_let_of hw] at hF
        rw [q_let_of hw] at hs
        refine lv_aload_n hx hb dX8_doRegisters_46 rfl (lv_at hl 2 rfl) ?_
        refine gf_X8_38 (v := .int w_167.2.2.2.2.2.2.2.2.1) hx hb hown ht hK hP 0 rfl rfl dX8_doRegisters_47 ?_
        refine lv_if_le (tgt := 54) hx hb dX8_doRegisters_50 (by decide) (fun c_168 => ?_) (fun c_168 => ?_)
        · skip
          rw [if_pos c_168] at hF
          rw [if_pos c_168] at hs
          refine lv_iload_n hx hb dX8_doRegisters_54 rfl (lv_at hl 3 rfl) ?_
          refine lv_bipush (v := 16) hx hb dX8_doRegisters_55 (by decide) ?_
          refine lv_icmp_ge (tgt := 70) hx hb dX8_doRegisters_57 (by decide) (fun c_169 => ?_) (fun c_169 => ?_)
          · skip
            rw [if_pos c_169] at hF
            rw [if_pos c_169] at hs
            refine lv_iload_n hx hb dX8_doRegisters_70 rfl (lv_at hl 3 rfl) ?_
            refine lv_bipush (v := 24) hx hb dX8_doRegisters_71 (by decide) ?_
            refine lv_icmp_ge (tgt := 146) hx hb dX8_doRegisters_73 (by decide) (fun c_170 => ?_) (fun c_170 => ?_)
            · skip
              rw [if_pos c_170] at hF
              rw [if_pos c_170] at hs
              refine lv_iload_n hx hb dX8_doRegisters_146 rfl (lv_at hl 3 rfl) ?_
              refine lv_bipush (v := 24) hx hb dX8_doRegisters_147 (by decide) ?_
              refine lv_icmp_ne (tgt := 163) hx hb dX8_doRegisters_149 (by decide) (fun c_171 => ?_) (fun c_171 => ?_)
              · skip
                rw [if_neg c_171] at hF
                rw [if_neg c_171] at hs
                refine lv_iload_n hx hb dX8_doRegisters_163 rfl (lv_at hl 3 rfl) ?_
                refine lv_bipush (v := 25) hx hb dX8_doRegisters_164 (by decide) ?_
                refine lv_icmp_ne (tgt := 180) hx hb dX8_doRegisters_166 (by decide) (fun c_172 => ?_) (fun c_172 => ?_)
                · skip
                  rw [if_neg c_172] at hF
                  rw [if_neg c_172] at hs
                  refine lv_iload_n hx hb dX8_doRegisters_180 rfl (lv_at hl 3 rfl) ?_
                  refine lv_bipush (v := 28) hx hb dX8_doRegisters_181 (by decide) ?_
                  refine lv_icmp_ge (tgt := 222) hx hb dX8_doRegisters_183 (by decide) (fun c_173 => ?_) (fun c_173 => ?_)
                  · skip
                    rw [if_pos c_173] at hF
                    rw [if_pos c_173] at hs
                    refine lv_iload_n hx hb dX8_doRegisters_222 rfl (lv_at hl 3 rfl) ?_
                    refine lv_bipush (v := 28) hx hb dX8_doRegisters_223 (by decide) ?_
                    refine lv_icmp_ne (tgt := 269) hx hb dX8_doRegisters_225 (by decide) (fun c_174 => ?_) (fun c_174 => ?_)
                    · skip
                      rw [if_neg c_174] at hF
                      rw [if_neg c_174] at hs
                      refine lv_aload_n hx hb dX8_doRegisters_269 rfl (lv_at hl 2 rfl) ?_
                      refine lv_iload_n hx hb dX8_doRegisters_270 rfl (lv_at hl 4 rfl) ?_
                      refine lv_iload hx hb dX8_doRegisters_271 (lv_at hl 0 rfl) ?_
                      have hi_175 := hs
                      refine q_Vv (rest := []) (c_X8_divide l D a_this a_this_reg a_this_bytes a_this_keys a_this_card a_this_filled a_this_taken a_this_line a_this_one a_this_two k_this_reg w_167 r_this_reg p2 (r_this_reg p3.toNatClampNeg) hi_175) cv_X8_divide hx hb hml hown ht hN hK hA hP hD hS hl.1 (km_X8_139) ⟨Nat.le_of_ble_eq_true rfl, Nat.le_of_ble_eq_true rfl⟩ rfl rfl [0, 3] (by decide) rfl [2] rfl (fun _ => rfl) (ci := 8) rfl rfl rfl rfl rfl (Nat.le_of_ble_eq_true rfl) dX8_doRegisters_273 ⟨Nat.zero_le _, Nat.zero_le _⟩ (fun w_176 H locs hw hP hD hS => ?_)
                      have hP : va_P D vwCl [(a_this, oX8 a_this_bytes a_this_keys a_this_reg a_this_card a_this_filled a_this_taken a_this_line a_this_one a_this_two w_176.1), (a_this_bytes, .inl (k_this_bytes, 2048, .inl r_this_bytes)), (a_this_keys, .inl (k_this_keys, 8, .inl r_this_keys)), (a_this_reg, .inl (k_this_reg, 16, .inl w_176.2))] H := hP
                      have hD : va_D A [(a_this, oX8 a_this_bytes a_this_keys a_this_reg a_this_card a_this_filled a_this_taken a_this_line a_this_one a_this_two w_176.1), (a_this_bytes, .inl (k_this_bytes, 2048, .inl r_this_bytes)), (a_this_keys, .inl (k_this_keys, 8, .inl r_this_keys)), (a_this_reg, .inl (k_this_reg, 16, .inl w_176.2))] := hD
                      rw [q_let_of hw] at hF
                      exact hQ (w_176.1, r_this_bytes, r_this_keys, w_176.2) _ _ _ _ dX8_doRegisters_276 hF.symm hP hD hS
                    · skip
                      rw [if_pos c_174] at hF
                      rw [if_pos c_174] at hs
                      refine lv_aload_n hx hb dX8_doRegisters_228 rfl (lv_at hl 2 rfl) ?_
                      refine gf_X8_16 (v := .ref a_this_reg) hx hb hown ht hK hP 0 rfl rfl dX8_doRegisters_229 ?_
                      refine lv_iload_n hx hb dX8_doRegisters_232 rfl (lv_at hl 4 rfl) ?_
                      refine lv_iconst (v := 1) hx hb dX8_doRegisters_233 (by decide) ?_
                      refine lv_iadd hx hb dX8_doRegisters_234 ?_
                      obtain ⟨hi_177, hs⟩ := hs
                      refine va_iald hx hb hK hP 3 2 rfl rfl hi_177 dX8_doRegisters_235 ?_
                      refine lv_i2l hx hb dX8_doRegisters_236 rfl ?_
                      refine lv_iload hx hb dX8_doRegisters_237 (lv_at hl 0 rfl) ?_
                      refine lv_i2l hx hb dX8_doRegisters_239 rfl ?_
                      refine lv_lmul hx hb dX8_doRegisters_240 ?_
                      refine lv_lstore (lv' := [(6, .long (((r_this_reg (p2 + (1 : Int32)).toNatClampNeg).toInt64) * ((r_this_reg p3.toNatClampNeg).toInt64))), (5, .int (r_this_reg p3.toNatClampNeg)), (4, .int (r_this_reg p2.toNatClampNeg)), (0, .ref a_this), (1, .int p1), (2, .int p2), (3, .int p3)]) hx hb dX8_doRegisters_241 hl (by decide) rfl (fun ls hl => ?_)
                      refine lv_aload_n hx hb dX8_doRegisters_243 rfl (lv_at hl 3 rfl) ?_
                      refine gf_X8_16 (v := .ref a_this_reg) hx hb hown ht hK hP 0 rfl rfl dX8_doRegisters_244 ?_
                      refine lv_iload_n hx hb dX8_doRegisters_247 rfl (lv_at hl 5 rfl) ?_
                      refine lv_lload hx hb dX8_doRegisters_248 (lv_at hl 0 rfl) ?_
                      refine lv_bipush (v := 32) hx hb dX8_doRegisters_250 (by decide) ?_
                      refine lv_lshr hx hb dX8_doRegisters_252 rfl ?_
                      refine lv_l2i hx hb dX8_doRegisters_253 rfl ?_
                      obtain ⟨hi_178, hs⟩ := hs
                      refine va_iast hx hb hK hP hD hS 3 2 rfl rfl hi_178 dX8_doRegisters_254 (fun H locs hP hD hS => ?_)
                      have hP : va_P D vwCl [(a_this, oX8 a_this_bytes a_this_keys a_this_reg a_this_card a_this_filled a_this_taken a_this_line a_this_one a_this_two w_167), (a_this_bytes, .inl (k_this_bytes, 2048, .inl r_this_bytes)), (a_this_keys, .inl (k_this_keys, 8, .inl r_this_keys)), (a_this_reg, .inl (k_this_reg, 16, .inl (upd r_this_reg p2.toNatClampNeg (((((r_this_reg (p2 + (1 : Int32)).toNatClampNeg).toInt64) * ((r_this_reg p3.toNatClampNeg).toInt64)) >>> ((32 : Int32).toInt64 &&& 63)).toInt32))))] H := hP
                      have hD : va_D A [(a_this, oX8 a_this_bytes a_this_keys a_this_reg a_this_card a_this_filled a_this_taken a_this_line a_this_one a_this_two w_167), (a_this_bytes, .inl (k_this_bytes, 2048, .inl r_this_bytes)), (a_this_keys, .inl (k_this_keys, 8, .inl r_this_keys)), (a_this_reg, .inl (k_this_reg, 16, .inl (upd r_this_reg p2.toNatClampNeg (((((r_this_reg (p2 + (1 : Int32)).toNatClampNeg).toInt64) * ((r_this_reg p3.toNatClampNeg).toInt64)) >>> ((32 : Int32).toInt64 &&& 63)).toInt32))))] := hD
                      refine lv_aload_n hx hb dX8_doRegisters_255 rfl (lv_at hl 3 rfl) ?_
                      refine gf_X8_16 (v := .ref a_this_reg) hx hb hown ht hK hP 0 rfl rfl dX8_doRegisters_256 ?_
                      refine lv_iload_n hx hb dX8_doRegisters_259 rfl (lv_at hl 5 rfl) ?_
                      refine lv_iconst (v := 1) hx hb dX8_doRegisters_260 (by decide) ?_
                      refine lv_iadd hx hb dX8_doRegisters_261 ?_
                      refine lv_lload hx hb dX8_doRegisters_262 (lv_at hl 0 rfl) ?_
                      refine lv_l2i hx hb dX8_doRegisters_264 rfl ?_
                      have hi_179 := hs
                      refine va_iast hx hb hK hP hD hS 3 2 rfl rfl hi_179 dX8_doRegisters_265 (fun H locs hP hD hS => ?_)
                      have hP : va_P D vwCl [(a_this, oX8 a_this_bytes a_this_keys a_this_reg a_this_card a_this_filled a_this_taken a_this_line a_this_one a_this_two w_167), (a_this_bytes, .inl (k_this_bytes, 2048, .inl r_this_bytes)), (a_this_keys, .inl (k_this_keys, 8, .inl r_this_keys)), (a_this_reg, .inl (k_this_reg, 16, .inl (upd (upd r_this_reg p2.toNatClampNeg (((((r_this_reg (p2 + (1 : Int32)).toNatClampNeg).toInt64) * ((r_this_reg p3.toNatClampNeg).toInt64)) >>> ((32 : Int32).toInt64 &&& 63)).toInt32)) (p2 + (1 : Int32)).toNatClampNeg ((((r_this_reg (p2 + (1 : Int32)).toNatClampNeg).toInt64) * ((r_this_reg p3.toNatClampNeg).toInt64)).toInt32))))] H := hP
                      have hD : va_D A [(a_this, oX8 a_this_bytes a_this_keys a_this_reg a_this_card a_this_filled a_this_taken a_this_line a_this_one a_this_two w_167), (a_this_bytes, .inl (k_this_bytes, 2048, .inl r_this_bytes)), (a_this_keys, .inl (k_this_keys, 8, .inl r_this_keys)), (a_this_reg, .inl (k_this_reg, 16, .inl (upd (upd r_this_reg p2.toNatClampNeg (((((r_this_reg (p2 + (1 : Int32)).toNatClampNeg).toInt64) * ((r_this_reg p3.toNatClampNeg).toInt64)) >>> ((32 : Int32).toInt64 &&& 63)).toInt32)) (p2 + (1 : Int32)).toNatClampNeg ((((r_this_reg (p2 + (1 : Int32)).toNatClampNeg).toInt64) * ((r_this_reg p3.toNatClampNeg).toInt64)).toInt32))))] := hD
                      refine lv_goto (tgt := 276) hx hb dX8_doRegisters_266 (by decide) ?_
                      exact hQ (w_167, r_this_bytes, r_this_keys, (upd (upd r_this_reg p2.toNatClampNeg (((((r_this_reg (p2 + (1 : Int32)).toNatClampNeg).toInt64) * ((r_this_reg p3.toNatClampNeg).toInt64)) >>> ((32 : Int32).toInt64 &&& 63)).toInt32)) (p2 + (1 : Int32)).toNatClampNeg ((((r_this_reg (p2 + (1 : Int32)).toNatClampNeg).toInt64) * ((r_this_reg p3.toNatClampNeg).toInt64)).toInt32))) _ _ _ _ dX8_doRegisters_276 hF.symm hP hD hS
                  · skip
                    rw [if_neg c_173] at hF
                    rw [if_neg c_173] at hs
                    refine lv_aload_n hx hb dX8_doRegisters_186 rfl (lv_at hl 2 rfl) ?_
                    refine gf_X8_16 (v := .ref a_this_reg) hx hb hown ht hK hP 0 rfl rfl dX8_doRegisters_187 ?_
                    refine lv_iload_n hx hb dX8_doRegisters_190 rfl (lv_at hl 4 rfl) ?_
                    refine lv_aload_n hx hb dX8_doRegisters_191 rfl (lv_at hl 2 rfl) ?_
                    refine lv_iload_n hx hb dX8_doRegisters_192 rfl (lv_at hl 3 rfl) ?_
                    refine lv_bipush (v := 26) hx hb dX8_doRegisters_193 (by decide) ?_
                    refine lv_icmp_ne (tgt := 208) hx hb dX8_doRegisters_195 (by decide) (fun c_180 => ?_) (fun c_180 => ?_)
                    · skip
                      rw [if_neg c_180] at hF
                      rw [if_neg c_180] at hs
                      refine lv_iload hx hb dX8_doRegisters_208 (lv_at hl 1 rfl) ?_
                      refine lv_i2l hx hb dX8_doRegisters_210 rfl ?_
                      refine lv_iload hx hb dX8_doRegisters_211 (lv_at hl 0 rfl) ?_
                      refine lv_i2l hx hb dX8_doRegisters_213 rfl ?_
                      refine lv_lsub hx hb dX8_doRegisters_214 ?_
                      refine q_Vi (rest := [.int p2, .ref a_this_reg]) (c_X8_summed l D a_this a_this_bytes a_this_keys a_this_reg a_this_card a_this_filled a_this_taken a_this_line a_this_one a_this_two w_167 (((r_this_reg p2.toNatClampNeg).toInt64) - ((r_this_reg p3.toNatClampNeg).toInt64))) cv_X8_summed hx hb hml hown ht hN hK hA hP hD hS hl.1 (km_X8_135) ⟨Nat.le_of_ble_eq_true rfl, Nat.le_of_ble_eq_true rfl⟩ rfl rfl [0] (by decide) rfl [] rfl (fun _ => rfl) (ci := 8) rfl rfl rfl rfl rfl (Nat.le_of_ble_eq_true rfl) dX8_doRegisters_215 ⟨Nat.zero_le _, Nat.zero_le _⟩ (fun r w_181 H locs hw hP hD hS => ?_)
                      obtain ⟨hw, hr⟩ := hw
                      subst hr
                      have hP : va_P D vwCl [(a_this, oX8 a_this_bytes a_this_keys a_this_reg a_this_card a_this_filled a_this_taken a_this_line a_this_one a_this_two w_181.2), (a_this_bytes, .inl (k_this_bytes, 2048, .inl r_this_bytes)), (a_this_keys, .inl (k_this_keys, 8, .inl r_this_keys)), (a_this_reg, .inl (k_this_reg, 16, .inl r_this_reg))] H := hP
                      have hD : va_D A [(a_this, oX8 a_this_bytes a_this_keys a_this_reg a_this_card a_this_filled a_this_taken a_this_line a_this_one a_this_two w_181.2), (a_this_bytes, .inl (k_this_bytes, 2048, .inl r_this_bytes)), (a_this_keys, .inl (k_this_keys, 8, .inl r_this_keys)), (a_this_reg, .inl (k_this_reg, 16, .inl r_this_reg))] := hD
                      rw [q_let_of hw] at hF
                      rw [q_let_of hw] at hs
                      have hi_182 := hs
                      refine va_iast hx hb hK hP hD hS 3 2 rfl rfl hi_182 dX8_doRegisters_218 (fun H locs hP hD hS => ?_)
                      have hP : va_P D vwCl [(a_this, oX8 a_this_bytes a_this_keys a_this_reg a_this_card a_this_filled a_this_taken a_this_line a_this_one a_this_two w_181.2), (a_this_bytes, .inl (k_this_bytes, 2048, .inl r_this_bytes)), (a_this_keys, .inl (k_this_keys, 8, .inl r_this_keys)), (a_this_reg, .inl (k_this_reg, 16, .inl (upd r_this_reg p2.toNatClampNeg w_181.1)))] H := hP
                      have hD : va_D A [(a_this, oX8 a_this_bytes a_this_keys a_this_reg a_this_card a_this_filled a_this_taken a_this_line a_this_one a_this_two w_181.2), (a_this_bytes, .inl (k_this_bytes, 2048, .inl r_this_bytes)), (a_this_keys, .inl (k_this_keys, 8, .inl r_this_keys)), (a_this_reg, .inl (k_this_reg, 16, .inl (upd r_this_reg p2.toNatClampNeg w_181.1)))] := hD
                      refine lv_goto (tgt := 276) hx hb dX8_doRegisters_219 (by decide) ?_
                      exact hQ (w_181.2, r_this_bytes, r_this_keys, (upd r_this_reg p2.toNatClampNeg w_181.1)) _ _ _ _ dX8_doRegisters_276 hF.symm hP hD hS
                    · skip
                      rw [if_pos c_180] at hF
                      rw [if_pos c_180] at hs
                      refine lv_iload hx hb dX8_doRegisters_198 (lv_at hl 1 rfl) ?_
                      refine lv_i2l hx hb dX8_doRegisters_200 rfl ?_
                      refine lv_iload hx hb dX8_doRegisters_201 (lv_at hl 0 rfl) ?_
                      refine lv_i2l hx hb dX8_doRegisters_203 rfl ?_
                      refine lv_ladd hx hb dX8_doRegisters_204 ?_
                      refine lv_goto (tgt := 215) hx hb dX8_doRegisters_205 (by decide) ?_
                      refine q_Vi (rest := [.int p2, .ref a_this_reg]) (c_X8_summed l D a_this a_this_bytes a_this_keys a_this_reg a_this_card a_this_filled a_this_taken a_this_line a_this_one a_this_two w_167 (((r_this_reg p2.toNatClampNeg).toInt64) + ((r_this_reg p3.toNatClampNeg).toInt64))) cv_X8_summed hx hb hml hown ht hN hK hA hP hD hS hl.1 (km_X8_135) ⟨Nat.le_of_ble_eq_true rfl, Nat.le_of_ble_eq_true rfl⟩ rfl rfl [0] (by decide) rfl [] rfl (fun _ => rfl) (ci := 8) rfl rfl rfl rfl rfl (Nat.le_of_ble_eq_true rfl) dX8_doRegisters_215 ⟨Nat.zero_le _, Nat.zero_le _⟩ (fun r w_183 H locs hw hP hD hS => ?_)
                      obtain ⟨hw, hr⟩ := hw
                      subst hr
                      have hP : va_P D vwCl [(a_this, oX8 a_this_bytes a_this_keys a_this_reg a_this_card a_this_filled a_this_taken a_this_line a_this_one a_this_two w_183.2), (a_this_bytes, .inl (k_this_bytes, 2048, .inl r_this_bytes)), (a_this_keys, .inl (k_this_keys, 8, .inl r_this_keys)), (a_this_reg, .inl (k_this_reg, 16, .inl r_this_reg))] H := hP
                      have hD : va_D A [(a_this, oX8 a_this_bytes a_this_keys a_this_reg a_this_card a_this_filled a_this_taken a_this_line a_this_one a_this_two w_183.2), (a_this_bytes, .inl (k_this_bytes, 2048, .inl r_this_bytes)), (a_this_keys, .inl (k_this_keys, 8, .inl r_this_keys)), (a_this_reg, .inl (k_this_reg, 16, .inl r_this_reg))] := hD
                      rw [q_let_of hw] at hF
                      rw [q_let_of hw] at hs
                      have hi_184 := hs
                      refine va_iast hx hb hK hP hD hS 3 2 rfl rfl hi_184 dX8_doRegisters_218 (fun H locs hP hD hS => ?_)
                      have hP : va_P D vwCl [(a_this, oX8 a_this_bytes a_this_keys a_this_reg a_this_card a_this_filled a_this_taken a_this_line a_this_one a_this_two w_183.2), (a_this_bytes, .inl (k_this_bytes, 2048, .inl r_this_bytes)), (a_this_keys, .inl (k_this_keys, 8, .inl r_this_keys)), (a_this_reg, .inl (k_this_reg, 16, .inl (upd r_this_reg p2.toNatClampNeg w_183.1)))] H := hP
                      have hD : va_D A [(a_this, oX8 a_this_bytes a_this_keys a_this_reg a_this_card a_this_filled a_this_taken a_this_line a_this_one a_this_two w_183.2), (a_this_bytes, .inl (k_this_bytes, 2048, .inl r_this_bytes)), (a_this_keys, .inl (k_this_keys, 8, .inl r_this_keys)), (a_this_reg, .inl (k_this_reg, 16, .inl (upd r_this_reg p2.toNatClampNeg w_183.1)))] := hD
                      refine lv_goto (tgt := 276) hx hb dX8_doRegisters_219 (by decide) ?_
                      exact hQ (w_183.2, r_this_bytes, r_this_keys, (upd r_this_reg p2.toNatClampNeg w_183.1)) _ _ _ _ dX8_doRegisters_276 hF.symm hP hD hS
                · skip
                  rw [if_pos c_172] at hF
                  rw [if_pos c_172] at hs
                  refine lv_aload_n hx hb dX8_doRegisters_169 rfl (lv_at hl 2 rfl) ?_
                  refine lv_iload hx hb dX8_doRegisters_170 (lv_at hl 1 rfl) ?_
                  refine lv_iload hx hb dX8_doRegisters_172 (lv_at hl 0 rfl) ?_
                  refine q_Vv (rest := []) (c_X8_compared l D a_this a_this_bytes a_this_keys a_this_reg a_this_card a_this_filled a_this_taken a_this_line a_this_one a_this_two w_167 (r_this_reg p2.toNatClampNeg) (r_this_reg p3.toNatClampNeg)) cv_X8_compared hx hb hml hown ht hN hK hA hP hD hS hl.1 (km_X8_131) ⟨Nat.le_of_ble_eq_true rfl, Nat.le_of_ble_eq_true rfl⟩ rfl rfl [0] (by decide) rfl [] rfl (fun _ => rfl) (ci := 8) rfl rfl rfl rfl rfl (Nat.le_of_ble_eq_true rfl) dX8_doRegisters_174 ⟨Nat.zero_le _, Nat.zero_le _⟩ (fun w_185 H locs hw hP hD hS => ?_)
                  have hP : va_P D vwCl [(a_this, oX8 a_this_bytes a_this_keys a_this_reg a_this_card a_this_filled a_this_taken a_this_line a_this_one a_this_two w_185), (a_this_bytes, .inl (k_this_bytes, 2048, .inl r_this_bytes)), (a_this_keys, .inl (k_this_keys, 8, .inl r_this_keys)), (a_this_reg, .inl (k_this_reg, 16, .inl r_this_reg))] H := hP
                  have hD : va_D A [(a_this, oX8 a_this_bytes a_this_keys a_this_reg a_this_card a_this_filled a_this_taken a_this_line a_this_one a_this_two w_185), (a_this_bytes, .inl (k_this_bytes, 2048, .inl r_this_bytes)), (a_this_keys, .inl (k_this_keys, 8, .inl r_this_keys)), (a_this_reg, .inl (k_this_reg, 16, .inl r_this_reg))] := hD
                  rw [q_let_of hw] at hF
                  refine lv_goto (tgt := 276) hx hb dX8_doRegisters_177 (by decide) ?_
                  exact hQ (w_185, r_this_bytes, r_this_keys, r_this_reg) _ _ _ _ dX8_doRegisters_276 hF.symm hP hD hS
              · skip
                rw [if_pos c_171] at hF
                rw [if_pos c_171] at hs
                refine lv_aload_n hx hb dX8_doRegisters_152 rfl (lv_at hl 2 rfl) ?_
                refine gf_X8_16 (v := .ref a_this_reg) hx hb hown ht hK hP 0 rfl rfl dX8_doRegisters_153 ?_
                refine lv_iload_n hx hb dX8_doRegisters_156 rfl (lv_at hl 4 rfl) ?_
                refine lv_iload hx hb dX8_doRegisters_157 (lv_at hl 0 rfl) ?_
                have hi_186 := hs
                refine va_iast hx hb hK hP hD hS 3 2 rfl rfl hi_186 dX8_doRegisters_159 (fun H locs hP hD hS => ?_)
                have hP : va_P D vwCl [(a_this, oX8 a_this_bytes a_this_keys a_this_reg a_this_card a_this_filled a_this_taken a_this_line a_this_one a_this_two w_167), (a_this_bytes, .inl (k_this_bytes, 2048, .inl r_this_bytes)), (a_this_keys, .inl (k_this_keys, 8, .inl r_this_keys)), (a_this_reg, .inl (k_this_reg, 16, .inl (upd r_this_reg p2.toNatClampNeg (r_this_reg p3.toNatClampNeg))))] H := hP
                have hD : va_D A [(a_this, oX8 a_this_bytes a_this_keys a_this_reg a_this_card a_this_filled a_this_taken a_this_line a_this_one a_this_two w_167), (a_this_bytes, .inl (k_this_bytes, 2048, .inl r_this_bytes)), (a_this_keys, .inl (k_this_keys, 8, .inl r_this_keys)), (a_this_reg, .inl (k_this_reg, 16, .inl (upd r_this_reg p2.toNatClampNeg (r_this_reg p3.toNatClampNeg))))] := hD
                refine lv_goto (tgt := 276) hx hb dX8_doRegisters_160 (by decide) ?_
                exact hQ (w_167, r_this_bytes, r_this_keys, (upd r_this_reg p2.toNatClampNeg (r_this_reg p3.toNatClampNeg))) _ _ _ _ dX8_doRegisters_276 hF.symm hP hD hS
            · skip
              rw [if_neg c_170] at hF
              rw [if_neg c_170] at hs
              refine lv_aload_n hx hb dX8_doRegisters_76 rfl (lv_at hl 2 rfl) ?_
              refine gf_X8_16 (v := .ref a_this_reg) hx hb hown ht hK hP 0 rfl rfl dX8_doRegisters_77 ?_
              refine lv_iload_n hx hb dX8_doRegisters_80 rfl (lv_at hl 4 rfl) ?_
              refine lv_iload_n hx hb dX8_doRegisters_81 rfl (lv_at hl 3 rfl) ?_
              refine lv_bipush (v := 18) hx hb dX8_doRegisters_82 (by decide) ?_
              refine lv_icmp_ne (tgt := 92) hx hb dX8_doRegisters_84 (by decide) (fun c_187 => ?_) (fun c_187 => ?_)
              · skip
                rw [if_neg c_187] at hF
                rw [if_neg c_187] at hs
                refine lv_aload_n hx hb dX8_doRegisters_92 rfl (lv_at hl 2 rfl) ?_
                refine lv_iload_n hx hb dX8_doRegisters_93 rfl (lv_at hl 3 rfl) ?_
                refine lv_bipush (v := 20) hx hb dX8_doRegisters_94 (by decide) ?_
                refine lv_icmp_ne (tgt := 107) hx hb dX8_doRegisters_96 (by decide) (fun c_188 => ?_) (fun c_188 => ?_)
                · skip
                  rw [if_neg c_188] at hF
                  rw [if_neg c_188] at hs
                  refine lv_iload_n hx hb dX8_doRegisters_107 rfl (lv_at hl 3 rfl) ?_
                  refine lv_bipush (v := 22) hx hb dX8_doRegisters_108 (by decide) ?_
                  refine lv_icmp_ne (tgt := 121) hx hb dX8_doRegisters_110 (by decide) (fun c_189 => ?_) (fun c_189 => ?_)
                  · skip
                    rw [if_neg c_189] at hF
                    rw [if_neg c_189] at hs
                    refine lv_iload hx hb dX8_doRegisters_121 (lv_at hl 1 rfl) ?_
                    refine lv_iload hx hb dX8_doRegisters_123 (lv_at hl 0 rfl) ?_
                    refine lv_ixor hx hb dX8_doRegisters_125 ?_
                    refine q_Vi (rest := [.int p2, .ref a_this_reg]) (c_X8_logic l D a_this a_this_bytes a_this_keys a_this_reg a_this_card a_this_filled a_this_taken a_this_line a_this_one a_this_two w_167 ((r_this_reg p2.toNatClampNeg) ^^^ (r_this_reg p3.toNatClampNeg))) cv_X8_logic hx hb hml hown ht hN hK hA hP hD hS hl.1 (km_X8_128) ⟨Nat.le_of_ble_eq_true rfl, Nat.le_of_ble_eq_true rfl⟩ rfl rfl [0] (by decide) rfl [] rfl (fun _ => rfl) (ci := 8) rfl rfl rfl rfl rfl (Nat.le_of_ble_eq_true rfl) dX8_doRegisters_126 ⟨Nat.zero_le _, Nat.zero_le _⟩ (fun r w_190 H locs hw hP hD hS => ?_)
                    obtain ⟨hw, hr⟩ := hw
                    subst hr
                    have hP : va_P D vwCl [(a_this, oX8 a_this_bytes a_this_keys a_this_reg a_this_card a_this_filled a_this_taken a_this_line a_this_one a_this_two w_190.2), (a_this_bytes, .inl (k_this_bytes, 2048, .inl r_this_bytes)), (a_this_keys, .inl (k_this_keys, 8, .inl r_this_keys)), (a_this_reg, .inl (k_this_reg, 16, .inl r_this_reg))] H := hP
                    have hD : va_D A [(a_this, oX8 a_this_bytes a_this_keys a_this_reg a_this_card a_this_filled a_this_taken a_this_line a_this_one a_this_two w_190.2), (a_this_bytes, .inl (k_this_bytes, 2048, .inl r_this_bytes)), (a_this_keys, .inl (k_this_keys, 8, .inl r_this_keys)), (a_this_reg, .inl (k_this_reg, 16, .inl r_this_reg))] := hD
                    rw [q_let_of hw] at hF
                    rw [q_let_of hw] at hs
                    have hi_191 := hs
                    refine va_iast hx hb hK hP hD hS 3 2 rfl rfl hi_191 dX8_doRegisters_129 (fun H locs hP hD hS => ?_)
                    have hP : va_P D vwCl [(a_this, oX8 a_this_bytes a_this_keys a_this_reg a_this_card a_this_filled a_this_taken a_this_line a_this_one a_this_two w_190.2), (a_this_bytes, .inl (k_this_bytes, 2048, .inl r_this_bytes)), (a_this_keys, .inl (k_this_keys, 8, .inl r_this_keys)), (a_this_reg, .inl (k_this_reg, 16, .inl (upd r_this_reg p2.toNatClampNeg w_190.1)))] H := hP
                    have hD : va_D A [(a_this, oX8 a_this_bytes a_this_keys a_this_reg a_this_card a_this_filled a_this_taken a_this_line a_this_one a_this_two w_190.2), (a_this_bytes, .inl (k_this_bytes, 2048, .inl r_this_bytes)), (a_this_keys, .inl (k_this_keys, 8, .inl r_this_keys)), (a_this_reg, .inl (k_this_reg, 16, .inl (upd r_this_reg p2.toNatClampNeg w_190.1)))] := hD
                    refine lv_iload_n hx hb dX8_doRegisters_130 rfl (lv_at hl 3 rfl) ?_
                    refine lv_bipush (v := 18) hx hb dX8_doRegisters_131 (by decide) ?_
                    refine lv_icmp_ne (tgt := 276) hx hb dX8_doRegisters_133 (by decide) (fun c_192 => ?_) (fun c_192 => ?_)
                    · skip
                      rw [if_neg c_192] at hF
                      exact hQ (w_190.2, r_this_bytes, r_this_keys, (upd r_this_reg p2.toNatClampNeg w_190.1)) _ _ _ _ dX8_doRegisters_276 hF.symm hP hD hS
                    · skip
                      rw [if_pos c_192] at hF
                      refine lv_aload_n hx hb dX8_doRegisters_136 rfl (lv_at hl 2 rfl) ?_
                      refine lv_iload hx hb dX8_doRegisters_137 (lv_at hl 0 rfl) ?_
                      refine lv_i2l hx hb dX8_doRegisters_139 rfl ?_
                      refine q_Vv (rest := []) (c_X8_sign l D a_this a_this_bytes a_this_keys a_this_reg a_this_card a_this_filled a_this_taken a_this_line a_this_one a_this_two w_190.2 ((r_this_reg p3.toNatClampNeg).toInt64)) cv_X8_sign hx hb hml hown ht hN hK hA hP hD hS hl.1 (km_X8_120) ⟨Nat.le_of_ble_eq_true rfl, Nat.le_of_ble_eq_true rfl⟩ rfl rfl [0] (by decide) rfl [] rfl (fun _ => rfl) (ci := 8) rfl rfl rfl rfl rfl (Nat.le_of_ble_eq_true rfl) dX8_doRegisters_140 ⟨Nat.zero_le _, Nat.zero_le _⟩ (fun w_193 H locs hw hP hD hS => ?_)
                      have hP : va_P D vwCl [(a_this, oX8 a_this_bytes a_this_keys a_this_reg a_this_card a_this_filled a_this_taken a_this_line a_this_one a_this_two w_193), (a_this_bytes, .inl (k_this_bytes, 2048, .inl r_this_bytes)), (a_this_keys, .inl (k_this_keys, 8, .inl r_this_keys)), (a_this_reg, .inl (k_this_reg, 16, .inl (upd r_this_reg p2.toNatClampNeg w_190.1)))] H := hP
                      have hD : va_D A [(a_this, oX8 a_this_bytes a_this_keys a_this_reg a_this_card a_this_filled a_this_taken a_this_line a_this_one a_this_two w_193), (a_this_bytes, .inl (k_this_bytes, 2048, .inl r_this_bytes)), (a_this_keys, .inl (k_this_keys, 8, .inl r_this_keys)), (a_this_reg, .inl (k_this_reg, 16, .inl (upd r_this_reg p2.toNatClampNeg w_190.1)))] := hD
                      rw [q_let_of hw] at hF
                      refine lv_goto (tgt := 276) hx hb dX8_doRegisters_143 (by decide) ?_
                      exact hQ (w_193, r_this_bytes, r_this_keys, (upd r_this_reg p2.toNatClampNeg w_190.1)) _ _ _ _ dX8_doRegisters_276 hF.symm hP hD hS
                  · skip
                    rw [if_pos c_189] at hF
                    rw [if_pos c_189] at hs
                    refine lv_iload hx hb dX8_doRegisters_113 (lv_at hl 1 rfl) ?_
                    refine lv_iload hx hb dX8_doRegisters_115 (lv_at hl 0 rfl) ?_
                    refine lv_ior hx hb dX8_doRegisters_117 ?_
                    refine lv_goto (tgt := 126) hx hb dX8_doRegisters_118 (by decide) ?_
                    refine q_Vi (rest := [.int p2, .ref a_this_reg]) (c_X8_logic l D a_this a_this_bytes a_this_keys a_this_reg a_this_card a_this_filled a_this_taken a_this_line a_this_one a_this_two w_167 ((r_this_reg p2.toNatClampNeg) ||| (r_this_reg p3.toNatClampNeg))) cv_X8_logic hx hb hml hown ht hN hK hA hP hD hS hl.1 (km_X8_128) ⟨Nat.le_of_ble_eq_true rfl, Nat.le_of_ble_eq_true rfl⟩ rfl rfl [0] (by decide) rfl [] rfl (fun _ => rfl) (ci := 8) rfl rfl rfl rfl rfl (Nat.le_of_ble_eq_true rfl) dX8_doRegisters_126 ⟨Nat.zero_le _, Nat.zero_le _⟩ (fun r w_194 H locs hw hP hD hS => ?_)
                    obtain ⟨hw, hr⟩ := hw
                    subst hr
                    have hP : va_P D vwCl [(a_this, oX8 a_this_bytes a_this_keys a_this_reg a_this_card a_this_filled a_this_taken a_this_line a_this_one a_this_two w_194.2), (a_this_bytes, .inl (k_this_bytes, 2048, .inl r_this_bytes)), (a_this_keys, .inl (k_this_keys, 8, .inl r_this_keys)), (a_this_reg, .inl (k_this_reg, 16, .inl r_this_reg))] H := hP
                    have hD : va_D A [(a_this, oX8 a_this_bytes a_this_keys a_this_reg a_this_card a_this_filled a_this_taken a_this_line a_this_one a_this_two w_194.2), (a_this_bytes, .inl (k_this_bytes, 2048, .inl r_this_bytes)), (a_this_keys, .inl (k_this_keys, 8, .inl r_this_keys)), (a_this_reg, .inl (k_this_reg, 16, .inl r_this_reg))] := hD
                    rw [q_let_of hw] at hF
                    rw [q_let_of hw] at hs
                    have hi_195 := hs
                    refine va_iast hx hb hK hP hD hS 3 2 rfl rfl hi_195 dX8_doRegisters_129 (fun H locs hP hD hS => ?_)
                    have hP : va_P D vwCl [(a_this, oX8 a_this_bytes a_this_keys a_this_reg a_this_card a_this_filled a_this_taken a_this_line a_this_one a_this_two w_194.2), (a_this_bytes, .inl (k_this_bytes, 2048, .inl r_this_bytes)), (a_this_keys, .inl (k_this_keys, 8, .inl r_this_keys)), (a_this_reg, .inl (k_this_reg, 16, .inl (upd r_this_reg p2.toNatClampNeg w_194.1)))] H := hP
                    have hD : va_D A [(a_this, oX8 a_this_bytes a_this_keys a_this_reg a_this_card a_this_filled a_this_taken a_this_line a_this_one a_this_two w_194.2), (a_this_bytes, .inl (k_this_bytes, 2048, .inl r_this_bytes)), (a_this_keys, .inl (k_this_keys, 8, .inl r_this_keys)), (a_this_reg, .inl (k_this_reg, 16, .inl (upd r_this_reg p2.toNatClampNeg w_194.1)))] := hD
                    refine lv_iload_n hx hb dX8_doRegisters_130 rfl (lv_at hl 3 rfl) ?_
                    refine lv_bipush (v := 18) hx hb dX8_doRegisters_131 (by decide) ?_
                    refine lv_icmp_ne (tgt := 276) hx hb dX8_doRegisters_133 (by decide) (fun c_196 => ?_) (fun c_196 => ?_)
                    · skip
                      rw [if_neg c_196] at hF
                      exact hQ (w_194.2, r_this_bytes, r_this_keys, (upd r_this_reg p2.toNatClampNeg w_194.1)) _ _ _ _ dX8_doRegisters_276 hF.symm hP hD hS
                    · skip
                      rw [if_pos c_196] at hF
                      refine lv_aload_n hx hb dX8_doRegisters_136 rfl (lv_at hl 2 rfl) ?_
                      refine lv_iload hx hb dX8_doRegisters_137 (lv_at hl 0 rfl) ?_
                      refine lv_i2l hx hb dX8_doRegisters_139 rfl ?_
                      refine q_Vv (rest := []) (c_X8_sign l D a_this a_this_bytes a_this_keys a_this_reg a_this_card a_this_filled a_this_taken a_this_line a_this_one a_this_two w_194.2 ((r_this_reg p3.toNatClampNeg).toInt64)) cv_X8_sign hx hb hml hown ht hN hK hA hP hD hS hl.1 (km_X8_120) ⟨Nat.le_of_ble_eq_true rfl, Nat.le_of_ble_eq_true rfl⟩ rfl rfl [0] (by decide) rfl [] rfl (fun _ => rfl) (ci := 8) rfl rfl rfl rfl rfl (Nat.le_of_ble_eq_true rfl) dX8_doRegisters_140 ⟨Nat.zero_le _, Nat.zero_le _⟩ (fun w_197 H locs hw hP hD hS => ?_)
                      have hP : va_P D vwCl [(a_this, oX8 a_this_bytes a_this_keys a_this_reg a_this_card a_this_filled a_this_taken a_this_line a_this_one a_this_two w_197), (a_this_bytes, .inl (k_this_bytes, 2048, .inl r_this_bytes)), (a_this_keys, .inl (k_this_keys, 8, .inl r_this_keys)), (a_this_reg, .inl (k_this_reg, 16, .inl (upd r_this_reg p2.toNatClampNeg w_194.1)))] H := hP
                      have hD : va_D A [(a_this, oX8 a_this_bytes a_this_keys a_this_reg a_this_card a_this_filled a_this_taken a_this_line a_this_one a_this_two w_197), (a_this_bytes, .inl (k_this_bytes, 2048, .inl r_this_bytes)), (a_this_keys, .inl (k_this_keys, 8, .inl r_this_keys)), (a_this_reg, .inl (k_this_reg, 16, .inl (upd r_this_reg p2.toNatClampNeg w_194.1)))] := hD
                      rw [q_let_of hw] at hF
                      refine lv_goto (tgt := 276) hx hb dX8_doRegisters_143 (by decide) ?_
                      exact hQ (w_197, r_this_bytes, r_this_keys, (upd r_this_reg p2.toNatClampNeg w_194.1)) _ _ _ _ dX8_doRegisters_276 hF.symm hP hD hS
                · skip
                  rw [if_pos c_188] at hF
                  rw [if_pos c_188] at hs
                  refine lv_iload hx hb dX8_doRegisters_99 (lv_at hl 1 rfl) ?_
                  refine lv_iload hx hb dX8_doRegisters_101 (lv_at hl 0 rfl) ?_
                  refine lv_iand hx hb dX8_doRegisters_103 ?_
                  refine lv_goto (tgt := 126) hx hb dX8_doRegisters_104 (by decide) ?_
                  refine q_Vi (rest := [.int p2, .ref a_this_reg]) (c_X8_logic l D a_this a_this_bytes a_this_keys a_this_reg a_this_card a_this_filled a_this_taken a_this_line a_this_one a_this_two w_167 ((r_this_reg p2.toNatClampNeg) &&& (r_this_reg p3.toNatClampNeg))) cv_X8_logic hx hb hml hown ht hN hK hA hP hD hS hl.1 (km_X8_128) ⟨Nat.le_of_ble_eq_true rfl, Nat.le_of_ble_eq_true rfl⟩ rfl rfl [0] (by decide) rfl [] rfl (fun _ => rfl) (ci := 8) rfl rfl rfl rfl rfl (Nat.le_of_ble_eq_true rfl) dX8_doRegisters_126 ⟨Nat.zero_le _, Nat.zero_le _⟩ (fun r w_198 H locs hw hP hD hS => ?_)
                  obtain ⟨hw, hr⟩ := hw
                  subst hr
                  have hP : va_P D vwCl [(a_this, oX8 a_this_bytes a_this_keys a_this_reg a_this_card a_this_filled a_this_taken a_this_line a_this_one a_this_two w_198.2), (a_this_bytes, .inl (k_this_bytes, 2048, .inl r_this_bytes)), (a_this_keys, .inl (k_this_keys, 8, .inl r_this_keys)), (a_this_reg, .inl (k_this_reg, 16, .inl r_this_reg))] H := hP
                  have hD : va_D A [(a_this, oX8 a_this_bytes a_this_keys a_this_reg a_this_card a_this_filled a_this_taken a_this_line a_this_one a_this_two w_198.2), (a_this_bytes, .inl (k_this_bytes, 2048, .inl r_this_bytes)), (a_this_keys, .inl (k_this_keys, 8, .inl r_this_keys)), (a_this_reg, .inl (k_this_reg, 16, .inl r_this_reg))] := hD
                  rw [q_let_of hw] at hF
                  rw [q_let_of hw] at hs
                  have hi_199 := hs
                  refine va_iast hx hb hK hP hD hS 3 2 rfl rfl hi_199 dX8_doRegisters_129 (fun H locs hP hD hS => ?_)
                  have hP : va_P D vwCl [(a_this, oX8 a_this_bytes a_this_keys a_this_reg a_this_card a_this_filled a_this_taken a_this_line a_this_one a_this_two w_198.2), (a_this_bytes, .inl (k_this_bytes, 2048, .inl r_this_bytes)), (a_this_keys, .inl (k_this_keys, 8, .inl r_this_keys)), (a_this_reg, .inl (k_this_reg, 16, .inl (upd r_this_reg p2.toNatClampNeg w_198.1)))] H := hP
                  have hD : va_D A [(a_this, oX8 a_this_bytes a_this_keys a_this_reg a_this_card a_this_filled a_this_taken a_this_line a_this_one a_this_two w_198.2), (a_this_bytes, .inl (k_this_bytes, 2048, .inl r_this_bytes)), (a_this_keys, .inl (k_this_keys, 8, .inl r_this_keys)), (a_this_reg, .inl (k_this_reg, 16, .inl (upd r_this_reg p2.toNatClampNeg w_198.1)))] := hD
                  refine lv_iload_n hx hb dX8_doRegisters_130 rfl (lv_at hl 3 rfl) ?_
                  refine lv_bipush (v := 18) hx hb dX8_doRegisters_131 (by decide) ?_
                  refine lv_icmp_ne (tgt := 276) hx hb dX8_doRegisters_133 (by decide) (fun c_200 => ?_) (fun c_200 => ?_)
                  · skip
                    rw [if_neg c_200] at hF
                    exact hQ (w_198.2, r_this_bytes, r_this_keys, (upd r_this_reg p2.toNatClampNeg w_198.1)) _ _ _ _ dX8_doRegisters_276 hF.symm hP hD hS
                  · skip
                    rw [if_pos c_200] at hF
                    refine lv_aload_n hx hb dX8_doRegisters_136 rfl (lv_at hl 2 rfl) ?_
                    refine lv_iload hx hb dX8_doRegisters_137 (lv_at hl 0 rfl) ?_
                    refine lv_i2l hx hb dX8_doRegisters_139 rfl ?_
                    refine q_Vv (rest := []) (c_X8_sign l D a_this a_this_bytes a_this_keys a_this_reg a_this_card a_this_filled a_this_taken a_this_line a_this_one a_this_two w_198.2 ((r_this_reg p3.toNatClampNeg).toInt64)) cv_X8_sign hx hb hml hown ht hN hK hA hP hD hS hl.1 (km_X8_120) ⟨Nat.le_of_ble_eq_true rfl, Nat.le_of_ble_eq_true rfl⟩ rfl rfl [0] (by decide) rfl [] rfl (fun _ => rfl) (ci := 8) rfl rfl rfl rfl rfl (Nat.le_of_ble_eq_true rfl) dX8_doRegisters_140 ⟨Nat.zero_le _, Nat.zero_le _⟩ (fun w_201 H locs hw hP hD hS => ?_)
                    have hP : va_P D vwCl [(a_this, oX8 a_this_bytes a_this_keys a_this_reg a_this_card a_this_filled a_this_taken a_this_line a_this_one a_this_two w_201), (a_this_bytes, .inl (k_this_bytes, 2048, .inl r_this_bytes)), (a_this_keys, .inl (k_this_keys, 8, .inl r_this_keys)), (a_this_reg, .inl (k_this_reg, 16, .inl (upd r_this_reg p2.toNatClampNeg w_198.1)))] H := hP
                    have hD : va_D A [(a_this, oX8 a_this_bytes a_this_keys a_this_reg a_this_card a_this_filled a_this_taken a_this_line a_this_one a_this_two w_201), (a_this_bytes, .inl (k_this_bytes, 2048, .inl r_this_bytes)), (a_this_keys, .inl (k_this_keys, 8, .inl r_this_keys)), (a_this_reg, .inl (k_this_reg, 16, .inl (upd r_this_reg p2.toNatClampNeg w_198.1)))] := hD
                    rw [q_let_of hw] at hF
                    refine lv_goto (tgt := 276) hx hb dX8_doRegisters_143 (by decide) ?_
                    exact hQ (w_201, r_this_bytes, r_this_keys, (upd r_this_reg p2.toNatClampNeg w_198.1)) _ _ _ _ dX8_doRegisters_276 hF.symm hP hD hS
              · skip
                rw [if_pos c_187] at hF
                rw [if_pos c_187] at hs
                refine lv_iload hx hb dX8_doRegisters_87 (lv_at hl 0 rfl) ?_
                refine lv_goto (tgt := 129) hx hb dX8_doRegisters_89 (by decide) ?_
                have hi_202 := hs
                refine va_iast hx hb hK hP hD hS 3 2 rfl rfl hi_202 dX8_doRegisters_129 (fun H locs hP hD hS => ?_)
                have hP : va_P D vwCl [(a_this, oX8 a_this_bytes a_this_keys a_this_reg a_this_card a_this_filled a_this_taken a_this_line a_this_one a_this_two w_167), (a_this_bytes, .inl (k_this_bytes, 2048, .inl r_this_bytes)), (a_this_keys, .inl (k_this_keys, 8, .inl r_this_keys)), (a_this_reg, .inl (k_this_reg, 16, .inl (upd r_this_reg p2.toNatClampNeg (r_this_reg p3.toNatClampNeg))))] H := hP
                have hD : va_D A [(a_this, oX8 a_this_bytes a_this_keys a_this_reg a_this_card a_this_filled a_this_taken a_this_line a_this_one a_this_two w_167), (a_this_bytes, .inl (k_this_bytes, 2048, .inl r_this_bytes)), (a_this_keys, .inl (k_this_keys, 8, .inl r_this_keys)), (a_this_reg, .inl (k_this_reg, 16, .inl (upd r_this_reg p2.toNatClampNeg (r_this_reg p3.toNatClampNeg))))] := hD
                refine lv_iload_n hx hb dX8_doRegisters_130 rfl (lv_at hl 3 rfl) ?_
                refine lv_bipush (v := 18) hx hb dX8_doRegisters_131 (by decide) ?_
                refine lv_icmp_ne (tgt := 276) hx hb dX8_doRegisters_133 (by decide) (fun c_203 => ?_) (fun c_203 => ?_)
                · skip
                  rw [if_neg c_203] at hF
                  exact hQ (w_167, r_this_bytes, r_this_keys, (upd r_this_reg p2.toNatClampNeg (r_this_reg p3.toNatClampNeg))) _ _ _ _ dX8_doRegisters_276 hF.symm hP hD hS
                · skip
                  rw [if_pos c_203] at hF
                  refine lv_aload_n hx hb dX8_doRegisters_136 rfl (lv_at hl 2 rfl) ?_
                  refine lv_iload hx hb dX8_doRegisters_137 (lv_at hl 0 rfl) ?_
                  refine lv_i2l hx hb dX8_doRegisters_139 rfl ?_
                  refine q_Vv (rest := []) (c_X8_sign l D a_this a_this_bytes a_this_keys a_this_reg a_this_card a_this_filled a_this_taken a_this_line a_this_one a_this_two w_167 ((r_this_reg p3.toNatClampNeg).toInt64)) cv_X8_sign hx hb hml hown ht hN hK hA hP hD hS hl.1 (km_X8_120) ⟨Nat.le_of_ble_eq_true rfl, Nat.le_of_ble_eq_true rfl⟩ rfl rfl [0] (by decide) rfl [] rfl (fun _ => rfl) (ci := 8) rfl rfl rfl rfl rfl (Nat.le_of_ble_eq_true rfl) dX8_doRegisters_140 ⟨Nat.zero_le _, Nat.zero_le _⟩ (fun w_204 H locs hw hP hD hS => ?_)
                  have hP : va_P D vwCl [(a_this, oX8 a_this_bytes a_this_keys a_this_reg a_this_card a_this_filled a_this_taken a_this_line a_this_one a_this_two w_204), (a_this_bytes, .inl (k_this_bytes, 2048, .inl r_this_bytes)), (a_this_keys, .inl (k_this_keys, 8, .inl r_this_keys)), (a_this_reg, .inl (k_this_reg, 16, .inl (upd r_this_reg p2.toNatClampNeg (r_this_reg p3.toNatClampNeg))))] H := hP
                  have hD : va_D A [(a_this, oX8 a_this_bytes a_this_keys a_this_reg a_this_card a_this_filled a_this_taken a_this_line a_this_one a_this_two w_204), (a_this_bytes, .inl (k_this_bytes, 2048, .inl r_this_bytes)), (a_this_keys, .inl (k_this_keys, 8, .inl r_this_keys)), (a_this_reg, .inl (k_this_reg, 16, .inl (upd r_this_reg p2.toNatClampNeg (r_this_reg p3.toNatClampNeg))))] := hD
                  rw [q_let_of hw] at hF
                  refine lv_goto (tgt := 276) hx hb dX8_doRegisters_143 (by decide) ?_
                  exact hQ (w_204, r_this_bytes, r_this_keys, (upd r_this_reg p2.toNatClampNeg (r_this_reg p3.toNatClampNeg))) _ _ _ _ dX8_doRegisters_276 hF.symm hP hD hS
          · skip
            rw [if_neg c_169] at hF
            rw [if_neg c_169] at hs
            refine lv_aload_n hx hb dX8_doRegisters_60 rfl (lv_at hl 2 rfl) ?_
            refine lv_iload_n hx hb dX8_doRegisters_61 rfl (lv_at hl 3 rfl) ?_
            refine lv_iload_n hx hb dX8_doRegisters_62 rfl (lv_at hl 4 rfl) ?_
            refine lv_iload_n hx hb dX8_doRegisters_63 rfl (lv_at hl 5 rfl) ?_
            have hi_205 := hs
            refine q_Vv (rest := []) (c_X8_control l D a_this a_this_bytes a_this_keys a_this_reg a_this_card a_this_filled a_this_taken a_this_line a_this_one a_this_two k_this_bytes k_this_keys k_this_reg w_167 r_this_bytes r_this_keys r_this_reg p1 p2 p3 hi_205) cv_X8_control hx hb hml hown ht hN hK hA hP hD hS hl.1 (km_X8_125) ⟨Nat.le_of_ble_eq_true rfl, Nat.le_of_ble_eq_true rfl⟩ rfl rfl [0, 1, 2, 3] (by decide) rfl [0, 1, 2] rfl (fun _ => rfl) (ci := 8) rfl rfl rfl rfl rfl (Nat.le_of_ble_eq_true rfl) dX8_doRegisters_64 ⟨Nat.zero_le _, Nat.zero_le _⟩ (fun w_206 H locs hw hP hD hS => ?_)
            have hP : va_P D vwCl [(a_this, oX8 a_this_bytes a_this_keys a_this_reg a_this_card a_this_filled a_this_taken a_this_line a_this_one a_this_two w_206.1), (a_this_bytes, .inl (k_this_bytes, 2048, .inl w_206.2.1)), (a_this_keys, .inl (k_this_keys, 8, .inl w_206.2.2.1)), (a_this_reg, .inl (k_this_reg, 16, .inl w_206.2.2.2))] H := hP
            have hD : va_D A [(a_this, oX8 a_this_bytes a_this_keys a_this_reg a_this_card a_this_filled a_this_taken a_this_line a_this_one a_this_two w_206.1), (a_this_bytes, .inl (k_this_bytes, 2048, .inl w_206.2.1)), (a_this_keys, .inl (k_this_keys, 8, .inl w_206.2.2.1)), (a_this_reg, .inl (k_this_reg, 16, .inl w_206.2.2.2))] := hD
            rw [q_let_of hw] at hF
            refine lv_goto (tgt := 276) hx hb dX8_doRegisters_67 (by decide) ?_
            exact hQ (w_206.1, w_206.2.1, w_206.2.2.1, w_206.2.2.2) _ _ _ _ dX8_doRegisters_276 hF.symm hP hD hS
        · skip
          rw [if_neg c_168] at hF
          rw [if_neg c_168] at hs
          exact hQ (w_167, r_this_bytes, r_this_keys, r_this_reg) _ _ _ _ dX8_doRegisters_53 hF.symm hP hD hS
theorem cv_X8_doRegisters : qV yX8_doRegisters cX8_doRegisters 8 none 3 := ⟨kc_X8_doRegisters, kt_X8_doRegisters, ks_X8_doRegisters, kn_X8, by decide, by decide +kernel⟩
def f_X8_sizeOf (p1 : Int32) : Int32 := (if p1 = (66 : Int32) then 1 else (if p1 = (67 : Int32) then 1 else (if p1 ≤ (77 : Int32) then (if (f_X8_among p1 64 72 73 74) = true then 2 else (if p1 ≤ (79 : Int32) then 0 else 4)) else (if (80 : Int32) ≤ p1 then (if (f_X8_among p1 64 72 73 74) = true then 2 else (if p1 ≤ (79 : Int32) then 0 else 4)) else 8))))
set_option linter.all false in
set_option maxHeartbeats 4000000 in
set_option maxRecDepth 100000 in
theorem c_X8_sizeOf (l : Launch) (D : va_G) (p1 : Int32) : CtI l yX8_sizeOf cX8_sizeOf 1 (some .int) { frames := 1, cells := 0, slots := 0, locals := 24 } D [.int p1] [] [] (fun (r : Int32) (u : Int32) => f_X8_sizeOf p1 = u ∧ r = u) (fun u => []) := by
  refine CtI.of (by decide) (Nat.le_of_ble_eq_true rfl) ?_
  intro p e s m below meth c A ls Q hE hP hD hS hl hQ
  obtain ⟨hx, hb, hml, hown, ht, hN, hK, hA⟩ := hE
  have hown : s.vm.findClass RX8 = some m.cls := hown
  have hl : lv_has ls 1 [(0, .int p1)] := hl
  obtain ⟨F, hF⟩ : ∃ F, f_X8_sizeOf p1 = F := ⟨_, rfl⟩
  rw [hF] at hQ
  unfold f_X8_sizeOf at hF
  refine lv_iload_n hx hb dX8_sizeOf_0 rfl (lv_at hl 0 rfl) ?_
  refine lv_bipush (v := 66) hx hb dX8_sizeOf_1 (by decide) ?_
  refine lv_icmp_eq (tgt := 12) hx hb dX8_sizeOf_3 (by decide) (fun c_1 => ?_) (fun c_1 => ?_)
  · skip
    rw [if_pos c_1] at hF
    refine lv_iconst (v := 1) hx hb dX8_sizeOf_12 (by decide) ?_
    exact hQ 1 1 _ _ _ _ dX8_sizeOf_13 ⟨hF.symm, rfl⟩ hP hD hS
  · skip
    rw [if_neg c_1] at hF
    refine lv_iload_n hx hb dX8_sizeOf_6 rfl (lv_at hl 0 rfl) ?_
    refine lv_bipush (v := 67) hx hb dX8_sizeOf_7 (by decide) ?_
    refine lv_icmp_ne (tgt := 14) hx hb dX8_sizeOf_9 (by decide) (fun c_2 => ?_) (fun c_2 => ?_)
    · skip
      rw [if_neg c_2] at hF
      refine lv_iload_n hx hb dX8_sizeOf_14 rfl (lv_at hl 0 rfl) ?_
      refine lv_bipush (v := 77) hx hb dX8_sizeOf_15 (by decide) ?_
      refine lv_icmp_le (tgt := 29) hx hb dX8_sizeOf_17 (by decide) (fun c_3 => ?_) (fun c_3 => ?_)
      · skip
        rw [if_pos c_3] at hF
        refine lv_iload_n hx hb dX8_sizeOf_29 rfl (lv_at hl 0 rfl) ?_
        refine lv_bipush (v := 64) hx hb dX8_sizeOf_30 (by decide) ?_
        refine lv_bipush (v := 72) hx hb dX8_sizeOf_32 (by decide) ?_
        refine lv_bipush (v := 73) hx hb dX8_sizeOf_34 (by decide) ?_
        refine lv_bipush (v := 74) hx hb dX8_sizeOf_36 (by decide) ?_
        refine q_Si (rest := []) (c_X8_among l D p1 64 72 73 74) cv_X8_among hx hb hml hown ht hN hK hA hP hD hS hl.1 (km_X8_115) ⟨Nat.le_of_ble_eq_true rfl, Nat.le_of_ble_eq_true rfl⟩ rfl rfl [] (by decide) rfl [] rfl (fun _ => rfl) rfl rfl (Nat.le_of_ble_eq_true rfl) dX8_sizeOf_38 ⟨Nat.zero_le _, Nat.zero_le _⟩ (fun r u H locs hw hP hD hS => ?_)
        obtain ⟨rfl, rfl⟩ := hw
        have hP : va_P D vwCl [] H := hP
        have hD : va_D A [] := hD
        refine lv_if_eq (tgt := 48) hx hb dX8_sizeOf_41 (by decide) (fun c_5 => ?_) (fun c_5 => ?_)
        · have c_5 : ¬ (f_X8_among p1 64 72 73 74) = true := by rw [(bI_eq0 _).mp c_5]; decide
          rw [if_neg c_5] at hF
          refine lv_iload_n hx hb dX8_sizeOf_48 rfl (lv_at hl 0 rfl) ?_
          refine lv_bipush (v := 79) hx hb dX8_sizeOf_49 (by decide) ?_
          refine lv_icmp_le (tgt := 58) hx hb dX8_sizeOf_51 (by decide) (fun c_6 => ?_) (fun c_6 => ?_)
          · skip
            rw [if_pos c_6] at hF
            refine lv_iconst (v := 0) hx hb dX8_sizeOf_58 (by decide) ?_
            exact hQ 0 0 _ _ _ _ dX8_sizeOf_59 ⟨hF.symm, rfl⟩ hP hD hS
          · skip
            rw [if_neg c_6] at hF
            refine lv_iconst (v := 4) hx hb dX8_sizeOf_54 (by decide) ?_
            refine lv_goto (tgt := 59) hx hb dX8_sizeOf_55 (by decide) ?_
            exact hQ 4 4 _ _ _ _ dX8_sizeOf_59 ⟨hF.symm, rfl⟩ hP hD hS
        · have c_5 := (bI_ne0 _).mp c_5
          rw [if_pos c_5] at hF
          refine lv_iconst (v := 2) hx hb dX8_sizeOf_44 (by decide) ?_
          refine lv_goto (tgt := 59) hx hb dX8_sizeOf_45 (by decide) ?_
          exact hQ 2 2 _ _ _ _ dX8_sizeOf_59 ⟨hF.symm, rfl⟩ hP hD hS
      · skip
        rw [if_neg c_3] at hF
        refine lv_iload_n hx hb dX8_sizeOf_20 rfl (lv_at hl 0 rfl) ?_
        refine lv_bipush (v := 80) hx hb dX8_sizeOf_21 (by decide) ?_
        refine lv_icmp_ge (tgt := 29) hx hb dX8_sizeOf_23 (by decide) (fun c_7 => ?_) (fun c_7 => ?_)
        · skip
          rw [if_pos c_7] at hF
          refine lv_iload_n hx hb dX8_sizeOf_29 rfl (lv_at hl 0 rfl) ?_
          refine lv_bipush (v := 64) hx hb dX8_sizeOf_30 (by decide) ?_
          refine lv_bipush (v := 72) hx hb dX8_sizeOf_32 (by decide) ?_
          refine lv_bipush (v := 73) hx hb dX8_sizeOf_34 (by decide) ?_
          refine lv_bipush (v := 74) hx hb dX8_sizeOf_36 (by decide) ?_
          refine q_Si (rest := []) (c_X8_among l D p1 64 72 73 74) cv_X8_among hx hb hml hown ht hN hK hA hP hD hS hl.1 (km_X8_115) ⟨Nat.le_of_ble_eq_true rfl, Nat.le_of_ble_eq_true rfl⟩ rfl rfl [] (by decide) rfl [] rfl (fun _ => rfl) rfl rfl (Nat.le_of_ble_eq_true rfl) dX8_sizeOf_38 ⟨Nat.zero_le _, Nat.zero_le _⟩ (fun r u H locs hw hP hD hS => ?_)
          obtain ⟨rfl, rfl⟩ := hw
          have hP : va_P D vwCl [] H := hP
          have hD : va_D A [] := hD
          refine lv_if_eq (tgt := 48) hx hb dX8_sizeOf_41 (by decide) (fun c_9 => ?_) (fun c_9 => ?_)
          · have c_9 : ¬ (f_X8_among p1 64 72 73 74) = true := by rw [(bI_eq0 _).mp c_9]; decide
            rw [if_neg c_9] at hF
            refine lv_iload_n hx hb dX8_sizeOf_48 rfl (lv_at hl 0 rfl) ?_
            refine lv_bipush (v := 79) hx hb dX8_sizeOf_49 (by decide) ?_
            refine lv_icmp_le (tgt := 58) hx hb dX8_sizeOf_51 (by decide) (fun c_10 => ?_) (fun c_10 => ?_)
            · skip
              rw [if_pos c_10] at hF
              refine lv_iconst (v := 0) hx hb dX8_sizeOf_58 (by decide) ?_
              exact hQ 0 0 _ _ _ _ dX8_sizeOf_59 ⟨hF.symm, rfl⟩ hP hD hS
            · skip
              rw [if_neg c_10] at hF
              refine lv_iconst (v := 4) hx hb dX8_sizeOf_54 (by decide) ?_
              refine lv_goto (tgt := 59) hx hb dX8_sizeOf_55 (by decide) ?_
              exact hQ 4 4 _ _ _ _ dX8_sizeOf_59 ⟨hF.symm, rfl⟩ hP hD hS
          · have c_9 := (bI_ne0 _).mp c_9
            rw [if_pos c_9] at hF
            refine lv_iconst (v := 2) hx hb dX8_sizeOf_44 (by decide) ?_
            refine lv_goto (tgt := 59) hx hb dX8_sizeOf_45 (by decide) ?_
            exact hQ 2 2 _ _ _ _ dX8_sizeOf_59 ⟨hF.symm, rfl⟩ hP hD hS
        · skip
          rw [if_neg c_7] at hF
          refine lv_bipush (v := 8) hx hb dX8_sizeOf_26 (by decide) ?_
          exact hQ 8 8 _ _ _ _ dX8_sizeOf_28 ⟨hF.symm, rfl⟩ hP hD hS
    · skip
      rw [if_pos c_2] at hF
      refine lv_iconst (v := 1) hx hb dX8_sizeOf_12 (by decide) ?_
      exact hQ 1 1 _ _ _ _ dX8_sizeOf_13 ⟨hF.symm, rfl⟩ hP hD hS
theorem cv_X8_sizeOf : qS yX8_sizeOf cX8_sizeOf 1 (some .int) 1 := ⟨kc_X8_sizeOf, kt_X8_sizeOf, kn_X8, by decide, by decide +kernel⟩
def f_X8_numbers (o_this : Int32 × Int32 × Int32 × Int32 × Bool × Bool × Int32 × Int32 × Int32 × Int32 × Bool × Bool × Bool × Int32 × Int32 × Int32 × Int32 × Int32 × Int32 × Int32 × Int32 × Int32 × Int32 × Int32 × Int32) (r_this_bytes : Nat → Int32) (r_this_reg : Nat → Int32) (p1 : Int32) (p2 : Int32) (p3 : Int32) (p4 : Int32) : (Int32 × Int32 × Int32 × Int32 × Bool × Bool × Int32 × Int32 × Int32 × Int32 × Bool × Bool × Bool × Int32 × Int32 × Int32 × Int32 × Int32 × Int32 × Int32 × Int32 × Int32 × Int32 × Int32 × Int32) × (Nat → Int32) × (Nat → Int32) := (if p1 = (64 : Int32) then (if p1 = (64 : Int32) then (q_let (f_X8_put r_this_bytes p3 (r_this_reg p2.toNatClampNeg) 2) fun w_7 => (o_this, w_7, r_this_reg)) else (q_let (f_X8_put r_this_bytes p3 (r_this_reg p2.toNatClampNeg) 4) fun w_5 => (o_this, w_5, r_this_reg))) else (if p1 = (80 : Int32) then (if p1 = (64 : Int32) then (q_let (f_X8_put r_this_bytes p3 (r_this_reg p2.toNatClampNeg) 2) fun w_26 => (o_this, w_26, r_this_reg)) else (q_let (f_X8_put r_this_bytes p3 (r_this_reg p2.toNatClampNeg) 4) fun w_24 => (o_this, w_24, r_this_reg))) else (if (p1 &&& (15 : Int32)) = (8 : Int32) then (o_this, r_this_bytes, (upd r_this_reg p2.toNatClampNeg p4)) else (if (p1 &&& (15 : Int32)) = (9 : Int32) then (q_let (f_X8_compared o_this (r_this_reg p2.toNatClampNeg) p4) fun w_19 => (w_19, r_this_bytes, r_this_reg)) else (if (p1 &&& (15 : Int32)) = (10 : Int32) then (q_let (f_X8_summed o_this (((r_this_reg p2.toNatClampNeg).toInt64) + p4.toInt64)) fun w_16 => (w_16.2, r_this_bytes, (upd r_this_reg p2.toNatClampNeg w_16.1))) else (q_let (f_X8_summed o_this (((r_this_reg p2.toNatClampNeg).toInt64) - p4.toInt64)) fun w_13 => (w_13.2, r_this_bytes, (upd r_this_reg p2.toNatClampNeg w_13.1))))))))
def s_X8_numbers (o_this : Int32 × Int32 × Int32 × Int32 × Bool × Bool × Int32 × Int32 × Int32 × Int32 × Bool × Bool × Bool × Int32 × Int32 × Int32 × Int32 × Int32 × Int32 × Int32 × Int32 × Int32 × Int32 × Int32 × Int32) (r_this_bytes : Nat → Int32) (r_this_reg : Nat → Int32) (p1 : Int32) (p2 : Int32) (p3 : Int32) (p4 : Int32) : Prop := (if p1 = (64 : Int32) then (vp_in p2 16 ∧ (if p1 = (64 : Int32) then s_X8_put r_this_bytes p3 (r_this_reg p2.toNatClampNeg) 2 else s_X8_put r_this_bytes p3 (r_this_reg p2.toNatClampNeg) 4)) else (if p1 = (80 : Int32) then (vp_in p2 16 ∧ (if p1 = (64 : Int32) then s_X8_put r_this_bytes p3 (r_this_reg p2.toNatClampNeg) 2 else s_X8_put r_this_bytes p3 (r_this_reg p2.toNatClampNeg) 4)) else (if (p1 &&& (15 : Int32)) = (8 : Int32) then vp_in p2 16 else (if (p1 &&& (15 : Int32)) = (9 : Int32) then vp_in p2 16 else (if (p1 &&& (15 : Int32)) = (10 : Int32) then (vp_in p2 16 ∧ (q_let (f_X8_summed o_this (((r_this_reg p2.toNatClampNeg).toInt64) + p4.toInt64)) fun w_16 => vp_in p2 16)) else (vp_in p2 16 ∧ (q_let (f_X8_summed o_this (((r_this_reg p2.toNatClampNeg).toInt64) - p4.toInt64)) fun w_13 => vp_in p2 16)))))))
set_option linter.all false in
set_option maxHeartbeats 4000000 in
set_option maxRecDepth 100000 in
theorem c_X8_numbers (l : Launch) (D : va_G) (a_this a_this_bytes a_this_reg a_this_keys a_this_card a_this_filled a_this_taken a_this_line a_this_one a_this_two : Nat) (k_this_bytes k_this_reg : ClassId) (o_this : Int32 × Int32 × Int32 × Int32 × Bool × Bool × Int32 × Int32 × Int32 × Int32 × Bool × Bool × Bool × Int32 × Int32 × Int32 × Int32 × Int32 × Int32 × Int32 × Int32 × Int32 × Int32 × Int32 × Int32) (r_this_bytes : Nat → Int32) (r_this_reg : Nat → Int32) (p1 : Int32) (p2 : Int32) (p3 : Int32) (p4 : Int32) (hs : s_X8_numbers o_this r_this_bytes r_this_reg p1 p2 p3 p4) : CtV l yX8_numbers cX8_numbers 6 none { frames := 2, cells := 0, slots := 0, locals := 45 } D [.ref a_this, .int p1, .int p2, .int p3, .int p4] [(a_this, oX8 a_this_bytes a_this_keys a_this_reg a_this_card a_this_filled a_this_taken a_this_line a_this_one a_this_two o_this), (a_this_bytes, .inl (k_this_bytes, 2048, .inl r_this_bytes)), (a_this_reg, .inl (k_this_reg, 16, .inl r_this_reg))] [(k_this_bytes, .int), (k_this_reg, .int)] (fun (u : (Int32 × Int32 × Int32 × Int32 × Bool × Bool × Int32 × Int32 × Int32 × Int32 × Bool × Bool × Bool × Int32 × Int32 × Int32 × Int32 × Int32 × Int32 × Int32 × Int32 × Int32 × Int32 × Int32 × Int32) × (Nat → Int32) × (Nat → Int32)) => f_X8_numbers o_this r_this_bytes r_this_reg p1 p2 p3 p4 = u) (fun u => [(a_this, oX8 a_this_bytes a_this_keys a_this_reg a_this_card a_this_filled a_this_taken a_this_line a_this_one a_this_two u.1), (a_this_bytes, .inl (k_this_bytes, 2048, .inl u.2.1)), (a_this_reg, .inl (k_this_reg, 16, .inl u.2.2))]) := by
  refine CtV.of (by decide) (Nat.le_of_ble_eq_true rfl) ?_
  intro p e s m below meth c A ls Q hE hP hD hS hl hQ
  obtain ⟨hx, hb, hml, hown, ht, hN, hK, hA⟩ := hE
  have hown : s.vm.findClass RX8 = some m.cls := hown
  have hl : lv_has ls 6 [(0, .ref a_this), (1, .int p1), (2, .int p2), (3, .int p3), (4, .int p4)] := hl
  obtain ⟨F, hF⟩ : ∃ F, f_X8_numbers o_this r_this_bytes r_this_reg p1 p2 p3 p4 = F := ⟨_, rfl⟩
  rw [hF] at hQ
  unfold f_X8_numbers at hF
  unfold s_X8_numbers at hs
  refine lv_iload_n hx hb dX8_numbers_0 rfl (lv_at hl 1 rfl) ?_
  refine lv_bipush (v := 15) hx hb dX8_numbers_1 (by decide) ?_
  refine lv_iand hx hb dX8_numbers_3 ?_
  refine lv_istore (lv' := [(5, .int (p1 &&& (15 : Int32))), (0, .ref a_this), (1, .int p1), (2, .int p2), (3, .int p3), (4, .int p4)]) hx hb dX8_numbers_4 hl (by decide) rfl (fun ls hl => ?_)
  refine lv_iload_n hx hb dX8_numbers_6 rfl (lv_at hl 2 rfl) ?_
  refine lv_bipush (v := 64) hx hb dX8_numbers_7 (by decide) ?_
  refine lv_icmp_eq (tgt := 18) hx hb dX8_numbers_9 (by decide) (fun c_1 => ?_) (fun c_1 => ?_)
  · skip
    rw [if_pos c_1] at hF
    rw [if_pos c_1] at hs
    refine lv_aload_n hx hb dX8_numbers_18 rfl (lv_at hl 1 rfl) ?_
    refine lv_iload_n hx hb dX8_numbers_19 rfl (lv_at hl 4 rfl) ?_
    refine lv_aload_n hx hb dX8_numbers_20 rfl (lv_at hl 1 rfl) ?_
    refine gf_X8_16 (v := .ref a_this_reg) hx hb hown ht hK hP 0 rfl rfl dX8_numbers_21 ?_
    refine lv_iload_n hx hb dX8_numbers_24 rfl (lv_at hl 3 rfl) ?_
    obtain ⟨hi_2, hs⟩ := hs
    refine va_iald hx hb hK hP 2 1 rfl rfl hi_2 dX8_numbers_25 ?_
    refine lv_iload_n hx hb dX8_numbers_26 rfl (lv_at hl 2 rfl) ?_
    refine lv_bipush (v := 64) hx hb dX8_numbers_27 (by decide) ?_
    refine lv_icmp_ne (tgt := 36) hx hb dX8_numbers_29 (by decide) (fun c_3 => ?_) (fun c_3 => ?_)
    · skip
      rw [if_neg c_3] at hF
      rw [if_neg c_3] at hs
      refine lv_iconst (v := 4) hx hb dX8_numbers_36 (by decide) ?_
      have hi_4 := hs
      refine q_Vv (rest := []) (c_X8_put l D a_this a_this_bytes a_this_keys a_this_reg a_this_card a_this_filled a_this_taken a_this_line a_this_one a_this_two k_this_bytes o_this r_this_bytes p3 (r_this_reg p2.toNatClampNeg) 4 hi_4) cv_X8_put hx hb hml hown ht hN hK hA hP hD hS hl.1 (km_X8_55) ⟨Nat.le_of_ble_eq_true rfl, Nat.le_of_ble_eq_true rfl⟩ rfl rfl [0, 1] (by decide) rfl [0] rfl (fun _ => rfl) (ci := 8) rfl rfl rfl rfl rfl (Nat.le_of_ble_eq_true rfl) dX8_numbers_37 ⟨Nat.zero_le _, Nat.zero_le _⟩ (fun w_5 H locs hw hP hD hS => ?_)
      have hP : va_P D vwCl [(a_this, oX8 a_this_bytes a_this_keys a_this_reg a_this_card a_this_filled a_this_taken a_this_line a_this_one a_this_two o_this), (a_this_bytes, .inl (k_this_bytes, 2048, .inl w_5)), (a_this_reg, .inl (k_this_reg, 16, .inl r_this_reg))] H := hP
      have hD : va_D A [(a_this, oX8 a_this_bytes a_this_keys a_this_reg a_this_card a_this_filled a_this_taken a_this_line a_this_one a_this_two o_this), (a_this_bytes, .inl (k_this_bytes, 2048, .inl w_5)), (a_this_reg, .inl (k_this_reg, 16, .inl r_this_reg))] := hD
      rw [q_let_of hw] at hF
      refine lv_goto (tgt := 125) hx hb dX8_numbers_40 (by decide) ?_
      exact hQ (o_this, w_5, r_this_reg) _ _ _ _ dX8_numbers_125 hF.symm hP hD hS
    · skip
      rw [if_pos c_3] at hF
      rw [if_pos c_3] at hs
      refine lv_iconst (v := 2) hx hb dX8_numbers_32 (by decide) ?_
      refine lv_goto (tgt := 37) hx hb dX8_numbers_33 (by decide) ?_
      have hi_6 := hs
      refine q_Vv (rest := []) (c_X8_put l D a_this a_this_bytes a_this_keys a_this_reg a_this_card a_this_filled a_this_taken a_this_line a_this_one a_this_two k_this_bytes o_this r_this_bytes p3 (r_this_reg p2.toNatClampNeg) 2 hi_6) cv_X8_put hx hb hml hown ht hN hK hA hP hD hS hl.1 (km_X8_55) ⟨Nat.le_of_ble_eq_true rfl, Nat.le_of_ble_eq_true rfl⟩ rfl rfl [0, 1] (by decide) rfl [0] rfl (fun _ => rfl) (ci := 8) rfl rfl rfl rfl rfl (Nat.le_of_ble_eq_true rfl) dX8_numbers_37 ⟨Nat.zero_le _, Nat.zero_le _⟩ (fun w_7 H locs hw hP hD hS => ?_)
      have hP : va_P D vwCl [(a_this, oX8 a_this_bytes a_this_keys a_this_reg a_this_card a_this_filled a_this_taken a_this_line a_this_one a_this_two o_this), (a_this_bytes, .inl (k_this_bytes, 2048, .inl w_7)), (a_this_reg, .inl (k_this_reg, 16, .inl r_this_reg))] H := hP
      have hD : va_D A [(a_this, oX8 a_this_bytes a_this_keys a_this_reg a_this_card a_this_filled a_this_taken a_this_line a_this_one a_this_two o_this), (a_this_bytes, .inl (k_this_bytes, 2048, .inl w_7)), (a_this_reg, .inl (k_this_reg, 16, .inl r_this_reg))] := hD
      rw [q_let_of hw] at hF
      refine lv_goto (tgt := 125) hx hb dX8_numbers_40 (by decide) ?_
      exact hQ (o_this, w_7, r_this_reg) _ _ _ _ dX8_numbers_125 hF.symm hP hD hS
  · skip
    rw [if_neg c_1] at hF
    rw [if_neg c_1] at hs
    refine lv_iload_n hx hb dX8_numbers_12 rfl (lv_at hl 2 rfl) ?_
    refine lv_bipush (v := 80) hx hb dX8_numbers_13 (by decide) ?_
    refine lv_icmp_ne (tgt := 43) hx hb dX8_numbers_15 (by decide) (fun c_8 => ?_) (fun c_8 => ?_)
    · skip
      rw [if_neg c_8] at hF
      rw [if_neg c_8] at hs
      refine lv_iload hx hb dX8_numbers_43 (lv_at hl 0 rfl) ?_
      refine lv_bipush (v := 8) hx hb dX8_numbers_45 (by decide) ?_
      refine lv_icmp_ne (tgt := 61) hx hb dX8_numbers_47 (by decide) (fun c_9 => ?_) (fun c_9 => ?_)
      · skip
        rw [if_neg c_9] at hF
        rw [if_neg c_9] at hs
        refine lv_iload hx hb dX8_numbers_61 (lv_at hl 0 rfl) ?_
        refine lv_bipush (v := 9) hx hb dX8_numbers_63 (by decide) ?_
        refine lv_icmp_ne (tgt := 83) hx hb dX8_numbers_65 (by decide) (fun c_10 => ?_) (fun c_10 => ?_)
        · skip
          rw [if_neg c_10] at hF
          rw [if_neg c_10] at hs
          refine lv_aload_n hx hb dX8_numbers_83 rfl (lv_at hl 1 rfl) ?_
          refine gf_X8_16 (v := .ref a_this_reg) hx hb hown ht hK hP 0 rfl rfl dX8_numbers_84 ?_
          refine lv_iload_n hx hb dX8_numbers_87 rfl (lv_at hl 3 rfl) ?_
          refine lv_aload_n hx hb dX8_numbers_88 rfl (lv_at hl 1 rfl) ?_
          refine lv_iload hx hb dX8_numbers_89 (lv_at hl 0 rfl) ?_
          refine lv_bipush (v := 10) hx hb dX8_numbers_91 (by decide) ?_
          refine lv_icmp_ne (tgt := 110) hx hb dX8_numbers_93 (by decide) (fun c_11 => ?_) (fun c_11 => ?_)
          · skip
            rw [if_neg c_11] at hF
            rw [if_neg c_11] at hs
            refine lv_aload_n hx hb dX8_numbers_110 rfl (lv_at hl 1 rfl) ?_
            refine gf_X8_16 (v := .ref a_this_reg) hx hb hown ht hK hP 0 rfl rfl dX8_numbers_111 ?_
            refine lv_iload_n hx hb dX8_numbers_114 rfl (lv_at hl 3 rfl) ?_
            obtain ⟨hi_12, hs⟩ := hs
            refine va_iald hx hb hK hP 2 1 rfl rfl hi_12 dX8_numbers_115 ?_
            refine lv_i2l hx hb dX8_numbers_116 rfl ?_
            refine lv_iload hx hb dX8_numbers_117 (lv_at hl 5 rfl) ?_
            refine lv_i2l hx hb dX8_numbers_119 rfl ?_
            refine lv_lsub hx hb dX8_numbers_120 ?_
            refine q_Vi (rest := [.int p2, .ref a_this_reg]) (c_X8_summed l D a_this a_this_bytes a_this_keys a_this_reg a_this_card a_this_filled a_this_taken a_this_line a_this_one a_this_two o_this (((r_this_reg p2.toNatClampNeg).toInt64) - p4.toInt64)) cv_X8_summed hx hb hml hown ht hN hK hA hP hD hS hl.1 (km_X8_135) ⟨Nat.le_of_ble_eq_true rfl, Nat.le_of_ble_eq_true rfl⟩ rfl rfl [0] (by decide) rfl [] rfl (fun _ => rfl) (ci := 8) rfl rfl rfl rfl rfl (Nat.le_of_ble_eq_true rfl) dX8_numbers_121 ⟨Nat.zero_le _, Nat.zero_le _⟩ (fun r w_13 H locs hw hP hD hS => ?_)
            obtain ⟨hw, hr⟩ := hw
            subst hr
            have hP : va_P D vwCl [(a_this, oX8 a_this_bytes a_this_keys a_this_reg a_this_card a_this_filled a_this_taken a_this_line a_this_one a_this_two w_13.2), (a_this_bytes, .inl (k_this_bytes, 2048, .inl r_this_bytes)), (a_this_reg, .inl (k_this_reg, 16, .inl r_this_reg))] H := hP
            have hD : va_D A [(a_this, oX8 a_this_bytes a_this_keys a_this_reg a_this_card a_this_filled a_this_taken a_this_line a_this_one a_this_two w_13.2), (a_this_bytes, .inl (k_this_bytes, 2048, .inl r_this_bytes)), (a_this_reg, .inl (k_this_reg, 16, .inl r_this_reg))] := hD
            rw [q_let_of hw] at hF
            rw [q_let_of hw] at hs
            have hi_14 := hs
            refine va_iast hx hb hK hP hD hS 2 1 rfl rfl hi_14 dX8_numbers_124 (fun H locs hP hD hS => ?_)
            have hP : va_P D vwCl [(a_this, oX8 a_this_bytes a_this_keys a_this_reg a_this_card a_this_filled a_this_taken a_this_line a_this_one a_this_two w_13.2), (a_this_bytes, .inl (k_this_bytes, 2048, .inl r_this_bytes)), (a_this_reg, .inl (k_this_reg, 16, .inl (upd r_this_reg p2.toNatClampNeg w_13.1)))] H := hP
            have hD : va_D A [(a_this, oX8 a_this_bytes a_this_keys a_this_reg a_this_card a_this_filled a_this_taken a_this_line a_this_one a_this_two w_13.2), (a_this_bytes, .inl (k_this_bytes, 2048, .inl r_this_bytes)), (a_this_reg, .inl (k_this_reg, 16, .inl (upd r_this_reg p2.toNatClampNeg w_13.1)))] := hD
            exact hQ (w_13.2, r_this_bytes, (upd r_this_reg p2.toNatClampNeg w_13.1)) _ _ _ _ dX8_numbers_125 hF.symm hP hD hS
          · skip
            rw [if_pos c_11] at hF
            rw [if_pos c_11] at hs
            refine lv_aload_n hx hb dX8_numbers_96 rfl (lv_at hl 1 rfl) ?_
            refine gf_X8_16 (v := .ref a_this_reg) hx hb hown ht hK hP 0 rfl rfl dX8_numbers_97 ?_
            refine lv_iload_n hx hb dX8_numbers_100 rfl (lv_at hl 3 rfl) ?_
            obtain ⟨hi_15, hs⟩ := hs
            refine va_iald hx hb hK hP 2 1 rfl rfl hi_15 dX8_numbers_101 ?_
            refine lv_i2l hx hb dX8_numbers_102 rfl ?_
            refine lv_iload hx hb dX8_numbers_103 (lv_at hl 5 rfl) ?_
            refine lv_i2l hx hb dX8_numbers_105 rfl ?_
            refine lv_ladd hx hb dX8_numbers_106 ?_
            refine lv_goto (tgt := 121) hx hb dX8_numbers_107 (by decide) ?_
            refine q_Vi (rest := [.int p2, .ref a_this_reg]) (c_X8_summed l D a_this a_this_bytes a_this_keys a_this_reg a_this_card a_this_filled a_this_taken a_this_line a_this_one a_this_two o_this (((r_this_reg p2.toNatClampNeg).toInt64) + p4.toInt64)) cv_X8_summed hx hb hml hown ht hN hK hA hP hD hS hl.1 (km_X8_135) ⟨Nat.le_of_ble_eq_true rfl, Nat.le_of_ble_eq_true rfl⟩ rfl rfl [0] (by decide) rfl [] rfl (fun _ => rfl) (ci := 8) rfl rfl rfl rfl rfl (Nat.le_of_ble_eq_true rfl) dX8_numbers_121 ⟨Nat.zero_le _, Nat.zero_le _⟩ (fun r w_16 H locs hw hP hD hS => ?_)
            obtain ⟨hw, hr⟩ := hw
            subst hr
            have hP : va_P D vwCl [(a_this, oX8 a_this_bytes a_this_keys a_this_reg a_this_card a_this_filled a_this_taken a_this_line a_this_one a_this_two w_16.2), (a_this_bytes, .inl (k_this_bytes, 2048, .inl r_this_bytes)), (a_this_reg, .inl (k_this_reg, 16, .inl r_this_reg))] H := hP
            have hD : va_D A [(a_this, oX8 a_this_bytes a_this_keys a_this_reg a_this_card a_this_filled a_this_taken a_this_line a_this_one a_this_two w_16.2), (a_this_bytes, .inl (k_this_bytes, 2048, .inl r_this_bytes)), (a_this_reg, .inl (k_this_reg, 16, .inl r_this_reg))] := hD
            rw [q_let_of hw] at hF
            rw [q_let_of hw] at hs
            have hi_17 := hs
            refine va_iast hx hb hK hP hD hS 2 1 rfl rfl hi_17 dX8_numbers_124 (fun H locs hP hD hS => ?_)
            have hP : va_P D vwCl [(a_this, oX8 a_this_bytes a_this_keys a_this_reg a_this_card a_this_filled a_this_taken a_this_line a_this_one a_this_two w_16.2), (a_this_bytes, .inl (k_this_bytes, 2048, .inl r_this_bytes)), (a_this_reg, .inl (k_this_reg, 16, .inl (upd r_this_reg p2.toNatClampNeg w_16.1)))] H := hP
            have hD : va_D A [(a_this, oX8 a_this_bytes a_this_keys a_this_reg a_this_card a_this_filled a_this_taken a_this_line a_this_one a_this_two w_16.2), (a_this_bytes, .inl (k_this_bytes, 2048, .inl r_this_bytes)), (a_this_reg, .inl (k_this_reg, 16, .inl (upd r_this_reg p2.toNatClampNeg w_16.1)))] := hD
            exact hQ (w_16.2, r_this_bytes, (upd r_this_reg p2.toNatClampNeg w_16.1)) _ _ _ _ dX8_numbers_125 hF.symm hP hD hS
        · skip
          rw [if_pos c_10] at hF
          rw [if_pos c_10] at hs
          refine lv_aload_n hx hb dX8_numbers_68 rfl (lv_at hl 1 rfl) ?_
          refine lv_aload_n hx hb dX8_numbers_69 rfl (lv_at hl 1 rfl) ?_
          refine gf_X8_16 (v := .ref a_this_reg) hx hb hown ht hK hP 0 rfl rfl dX8_numbers_70 ?_
          refine lv_iload_n hx hb dX8_numbers_73 rfl (lv_at hl 3 rfl) ?_
          have hi_18 := hs
          refine va_iald hx hb hK hP 2 1 rfl rfl hi_18 dX8_numbers_74 ?_
          refine lv_iload hx hb dX8_numbers_75 (lv_at hl 5 rfl) ?_
          refine q_Vv (rest := []) (c_X8_compared l D a_this a_this_bytes a_this_keys a_this_reg a_this_card a_this_filled a_this_taken a_this_line a_this_one a_this_two o_this (r_this_reg p2.toNatClampNeg) p4) cv_X8_compared hx hb hml hown ht hN hK hA hP hD hS hl.1 (km_X8_131) ⟨Nat.le_of_ble_eq_true rfl, Nat.le_of_ble_eq_true rfl⟩ rfl rfl [0] (by decide) rfl [] rfl (fun _ => rfl) (ci := 8) rfl rfl rfl rfl rfl (Nat.le_of_ble_eq_true rfl) dX8_numbers_77 ⟨Nat.zero_le _, Nat.zero_le _⟩ (fun w_19 H locs hw hP hD hS => ?_)
          have hP : va_P D vwCl [(a_this, oX8 a_this_bytes a_this_keys a_this_reg a_this_card a_this_filled a_this_taken a_this_line a_this_one a_this_two w_19), (a_this_bytes, .inl (k_this_bytes, 2048, .inl r_this_bytes)), (a_this_reg, .inl (k_this_reg, 16, .inl r_this_reg))] H := hP
          have hD : va_D A [(a_this, oX8 a_this_bytes a_this_keys a_this_reg a_this_card a_this_filled a_this_taken a_this_line a_this_one a_this_two w_19), (a_this_bytes, .inl (k_this_bytes, 2048, .inl r_this_bytes)), (a_this_reg, .inl (k_this_reg, 16, .inl r_this_reg))] := hD
          rw [q_let_of hw] at hF
          refine lv_goto (tgt := 125) hx hb dX8_numbers_80 (by decide) ?_
          exact hQ (w_19, r_this_bytes, r_this_reg) _ _ _ _ dX8_numbers_125 hF.symm hP hD hS
      · skip
        rw [if_pos c_9] at hF
        rw [if_pos c_9] at hs
        refine lv_aload_n hx hb dX8_numbers_50 rfl (lv_at hl 1 rfl) ?_
        refine gf_X8_16 (v := .ref a_this_reg) hx hb hown ht hK hP 0 rfl rfl dX8_numbers_51 ?_
        refine lv_iload_n hx hb dX8_numbers_54 rfl (lv_at hl 3 rfl) ?_
        refine lv_iload hx hb dX8_numbers_55 (lv_at hl 5 rfl) ?_
        have hi_20 := hs
        refine va_iast hx hb hK hP hD hS 2 1 rfl rfl hi_20 dX8_numbers_57 (fun H locs hP hD hS => ?_)
        have hP : va_P D vwCl [(a_this, oX8 a_this_bytes a_this_keys a_this_reg a_this_card a_this_filled a_this_taken a_this_line a_this_one a_this_two o_this), (a_this_bytes, .inl (k_this_bytes, 2048, .inl r_this_bytes)), (a_this_reg, .inl (k_this_reg, 16, .inl (upd r_this_reg p2.toNatClampNeg p4)))] H := hP
        have hD : va_D A [(a_this, oX8 a_this_bytes a_this_keys a_this_reg a_this_card a_this_filled a_this_taken a_this_line a_this_one a_this_two o_this), (a_this_bytes, .inl (k_this_bytes, 2048, .inl r_this_bytes)), (a_this_reg, .inl (k_this_reg, 16, .inl (upd r_this_reg p2.toNatClampNeg p4)))] := hD
        refine lv_goto (tgt := 125) hx hb dX8_numbers_58 (by decide) ?_
        exact hQ (o_this, r_this_bytes, (upd r_this_reg p2.toNatClampNeg p4)) _ _ _ _ dX8_numbers_125 hF.symm hP hD hS
    · skip
      rw [if_pos c_8] at hF
      rw [if_pos c_8] at hs
      refine lv_aload_n hx hb dX8_numbers_18 rfl (lv_at hl 1 rfl) ?_
      refine lv_iload_n hx hb dX8_numbers_19 rfl (lv_at hl 4 rfl) ?_
      refine lv_aload_n hx hb dX8_numbers_20 rfl (lv_at hl 1 rfl) ?_
      refine gf_X8_16 (v := .ref a_this_reg) hx hb hown ht hK hP 0 rfl rfl dX8_numbers_21 ?_
      refine lv_iload_n hx hb dX8_numbers_24 rfl (lv_at hl 3 rfl) ?_
      obtain ⟨hi_21, hs⟩ := hs
      refine va_iald hx hb hK hP 2 1 rfl rfl hi_21 dX8_numbers_25 ?_
      refine lv_iload_n hx hb dX8_numbers_26 rfl (lv_at hl 2 rfl) ?_
      refine lv_bipush (v := 64) hx hb dX8_numbers_27 (by decide) ?_
      refine lv_icmp_ne (tgt := 36) hx hb dX8_numbers_29 (by decide) (fun c_22 => ?_) (fun c_22 => ?_)
      · skip
        rw [if_neg c_22] at hF
        rw [if_neg c_22] at hs
        refine lv_iconst (v := 4) hx hb dX8_numbers_36 (by decide) ?_
        have hi_23 := hs
        refine q_Vv (rest := []) (c_X8_put l D a_this a_this_bytes a_this_keys a_this_reg a_this_card a_this_filled a_this_taken a_this_line a_this_one a_this_two k_this_bytes o_this r_this_bytes p3 (r_this_reg p2.toNatClampNeg) 4 hi_23) cv_X8_put hx hb hml hown ht hN hK hA hP hD hS hl.1 (km_X8_55) ⟨Nat.le_of_ble_eq_true rfl, Nat.le_of_ble_eq_true rfl⟩ rfl rfl [0, 1] (by decide) rfl [0] rfl (fun _ => rfl) (ci := 8) rfl rfl rfl rfl rfl (Nat.le_of_ble_eq_true rfl) dX8_numbers_37 ⟨Nat.zero_le _, Nat.zero_le _⟩ (fun w_24 H locs hw hP hD hS => ?_)
        have hP : va_P D vwCl [(a_this, oX8 a_this_bytes a_this_keys a_this_reg a_this_card a_this_filled a_this_taken a_this_line a_this_one a_this_two o_this), (a_this_bytes, .inl (k_this_bytes, 2048, .inl w_24)), (a_this_reg, .inl (k_this_reg, 16, .inl r_this_reg))] H := hP
        have hD : va_D A [(a_this, oX8 a_this_bytes a_this_keys a_this_reg a_this_card a_this_filled a_this_taken a_this_line a_this_one a_this_two o_this), (a_this_bytes, .inl (k_this_bytes, 2048, .inl w_24)), (a_this_reg, .inl (k_this_reg, 16, .inl r_this_reg))] := hD
        rw [q_let_of hw] at hF
        refine lv_goto (tgt := 125) hx hb dX8_numbers_40 (by decide) ?_
        exact hQ (o_this, w_24, r_this_reg) _ _ _ _ dX8_numbers_125 hF.symm hP hD hS
      · skip
        rw [if_pos c_22] at hF
        rw [if_pos c_22] at hs
        refine lv_iconst (v := 2) hx hb dX8_numbers_32 (by decide) ?_
        refine lv_goto (tgt := 37) hx hb dX8_numbers_33 (by decide) ?_
        have hi_25 := hs
        refine q_Vv (rest := []) (c_X8_put l D a_this a_this_bytes a_this_keys a_this_reg a_this_card a_this_filled a_this_taken a_this_line a_this_one a_this_two k_this_bytes o_this r_this_bytes p3 (r_this_reg p2.toNatClampNeg) 2 hi_25) cv_X8_put hx hb hml hown ht hN hK hA hP hD hS hl.1 (km_X8_55) ⟨Nat.le_of_ble_eq_true rfl, Nat.le_of_ble_eq_true rfl⟩ rfl rfl [0, 1] (by decide) rfl [0] rfl (fun _ => rfl) (ci := 8) rfl rfl rfl rfl rfl (Nat.le_of_ble_eq_true rfl) dX8_numbers_37 ⟨Nat.zero_le _, Nat.zero_le _⟩ (fun w_26 H locs hw hP hD hS => ?_)
        have hP : va_P D vwCl [(a_this, oX8 a_this_bytes a_this_keys a_this_reg a_this_card a_this_filled a_this_taken a_this_line a_this_one a_this_two o_this), (a_this_bytes, .inl (k_this_bytes, 2048, .inl w_26)), (a_this_reg, .inl (k_this_reg, 16, .inl r_this_reg))] H := hP
        have hD : va_D A [(a_this, oX8 a_this_bytes a_this_keys a_this_reg a_this_card a_this_filled a_this_taken a_this_line a_this_one a_this_two o_this), (a_this_bytes, .inl (k_this_bytes, 2048, .inl w_26)), (a_this_reg, .inl (k_this_reg, 16, .inl r_this_reg))] := hD
        rw [q_let_of hw] at hF
        refine lv_goto (tgt := 125) hx hb dX8_numbers_40 (by decide) ?_
        exact hQ (o_this, w_26, r_this_reg) _ _ _ _ dX8_numbers_125 hF.symm hP hD hS
theorem cv_X8_numbers : qV yX8_numbers cX8_numbers 6 none 4 := ⟨kc_X8_numbers, kt_X8_numbers, ks_X8_numbers, kn_X8, by decide, by decide +kernel⟩
def f_X8_ways (o_this : Int32 × Int32 × Int32 × Int32 × Bool × Bool × Int32 × Int32 × Int32 × Int32 × Bool × Bool × Bool × Int32 × Int32 × Int32 × Int32 × Int32 × Int32 × Int32 × Int32 × Int32 × Int32 × Int32 × Int32) (r_this_reg : Nat → Int32) (p1 : Int32) (p2 : Int32) (p3 : Int32) : (Int32 × Int32 × Int32 × Int32 × Bool × Bool × Int32 × Int32 × Int32 × Int32 × Bool × Bool × Bool × Int32 × Int32 × Int32 × Int32 × Int32 × Int32 × Int32 × Int32 × Int32 × Int32 × Int32 × Int32) × (Nat → Int32) := (if p1 = (65 : Int32) then (o_this, (upd r_this_reg p2.toNatClampNeg p3)) else (if p1 = (71 : Int32) then (if (f_X8_holds o_this p2) = true then (q_let (f_X8_go o_this p3) fun w_13 => (w_13, r_this_reg)) else (o_this, r_this_reg)) else (if p1 = (69 : Int32) then (q_let (f_X8_go o_this p3) fun w_10 => (w_10, (upd r_this_reg p2.toNatClampNeg o_this.2.2.2.1))) else (if ((upd r_this_reg p2.toNatClampNeg ((r_this_reg p2.toNatClampNeg) - (1 : Int32))) p2.toNatClampNeg) = 0 then (o_this, (upd r_this_reg p2.toNatClampNeg ((r_this_reg p2.toNatClampNeg) - (1 : Int32)))) else (q_let (f_X8_go o_this p3) fun w_8 => (w_8, (upd r_this_reg p2.toNatClampNeg ((r_this_reg p2.toNatClampNeg) - (1 : Int32)))))))))
def s_X8_ways (p1 : Int32) (p2 : Int32) : Prop := (if p1 = (65 : Int32) then vp_in p2 16 else (if p1 = (71 : Int32) then True else (if p1 = (69 : Int32) then vp_in p2 16 else (vp_in p2 16 ∧ (vp_in p2 16 ∧ vp_in p2 16)))))
set_option linter.all false in
set_option maxHeartbeats 4000000 in
set_option maxRecDepth 100000 in
theorem c_X8_ways (l : Launch) (D : va_G) (a_this a_this_reg a_this_bytes a_this_keys a_this_card a_this_filled a_this_taken a_this_line a_this_one a_this_two : Nat) (k_this_reg : ClassId) (o_this : Int32 × Int32 × Int32 × Int32 × Bool × Bool × Int32 × Int32 × Int32 × Int32 × Bool × Bool × Bool × Int32 × Int32 × Int32 × Int32 × Int32 × Int32 × Int32 × Int32 × Int32 × Int32 × Int32 × Int32) (r_this_reg : Nat → Int32) (p1 : Int32) (p2 : Int32) (p3 : Int32) (hs : s_X8_ways p1 p2) : CtV l yX8_ways cX8_ways 4 none { frames := 1, cells := 0, slots := 0, locals := 21 } D [.ref a_this, .int p1, .int p2, .int p3] [(a_this, oX8 a_this_bytes a_this_keys a_this_reg a_this_card a_this_filled a_this_taken a_this_line a_this_one a_this_two o_this), (a_this_reg, .inl (k_this_reg, 16, .inl r_this_reg))] [(k_this_reg, .int)] (fun (u : (Int32 × Int32 × Int32 × Int32 × Bool × Bool × Int32 × Int32 × Int32 × Int32 × Bool × Bool × Bool × Int32 × Int32 × Int32 × Int32 × Int32 × Int32 × Int32 × Int32 × Int32 × Int32 × Int32 × Int32) × (Nat → Int32)) => f_X8_ways o_this r_this_reg p1 p2 p3 = u) (fun u => [(a_this, oX8 a_this_bytes a_this_keys a_this_reg a_this_card a_this_filled a_this_taken a_this_line a_this_one a_this_two u.1), (a_this_reg, .inl (k_this_reg, 16, .inl u.2))]) := by
  refine CtV.of (by decide) (Nat.le_of_ble_eq_true rfl) ?_
  intro p e s m below meth c A ls Q hE hP hD hS hl hQ
  obtain ⟨hx, hb, hml, hown, ht, hN, hK, hA⟩ := hE
  have hown : s.vm.findClass RX8 = some m.cls := hown
  have hl : lv_has ls 4 [(0, .ref a_this), (1, .int p1), (2, .int p2), (3, .int p3)] := hl
  obtain ⟨F, hF⟩ : ∃ F, f_X8_ways o_this r_this_reg p1 p2 p3 = F := ⟨_, rfl⟩
  rw [hF] at hQ
  unfold f_X8_ways at hF
  unfold s_X8_ways at hs
  refine lv_iload_n hx hb dX8_ways_0 rfl (lv_at hl 1 rfl) ?_
  refine lv_bipush (v := 65) hx hb dX8_ways_1 (by decide) ?_
  refine lv_icmp_ne (tgt := 16) hx hb dX8_ways_3 (by decide) (fun c_1 => ?_) (fun c_1 => ?_)
  · skip
    rw [if_neg c_1] at hF
    rw [if_neg c_1] at hs
    refine lv_iload_n hx hb dX8_ways_16 rfl (lv_at hl 1 rfl) ?_
    refine lv_bipush (v := 71) hx hb dX8_ways_17 (by decide) ?_
    refine lv_icmp_ne (tgt := 38) hx hb dX8_ways_19 (by decide) (fun c_2 => ?_) (fun c_2 => ?_)
    · skip
      rw [if_neg c_2] at hF
      rw [if_neg c_2] at hs
      refine lv_iload_n hx hb dX8_ways_38 rfl (lv_at hl 1 rfl) ?_
      refine lv_bipush (v := 69) hx hb dX8_ways_39 (by decide) ?_
      refine lv_icmp_ne (tgt := 62) hx hb dX8_ways_41 (by decide) (fun c_3 => ?_) (fun c_3 => ?_)
      · skip
        rw [if_neg c_3] at hF
        rw [if_neg c_3] at hs
        refine lv_aload_n hx hb dX8_ways_62 rfl (lv_at hl 0 rfl) ?_
        refine gf_X8_16 (v := .ref a_this_reg) hx hb hown ht hK hP 0 rfl rfl dX8_ways_63 ?_
        refine lv_iload_n hx hb dX8_ways_66 rfl (lv_at hl 2 rfl) ?_
        refine lv_aload_n hx hb dX8_ways_67 rfl (lv_at hl 0 rfl) ?_
        refine gf_X8_16 (v := .ref a_this_reg) hx hb hown ht hK hP 0 rfl rfl dX8_ways_68 ?_
        refine lv_iload_n hx hb dX8_ways_71 rfl (lv_at hl 2 rfl) ?_
        obtain ⟨hi_4, hs⟩ := hs
        refine va_iald hx hb hK hP 1 0 rfl rfl hi_4 dX8_ways_72 ?_
        refine lv_iconst (v := 1) hx hb dX8_ways_73 (by decide) ?_
        refine lv_isub hx hb dX8_ways_74 ?_
        obtain ⟨hi_5, hs⟩ := hs
        refine va_iast hx hb hK hP hD hS 1 0 rfl rfl hi_5 dX8_ways_75 (fun H locs hP hD hS => ?_)
        have hP : va_P D vwCl [(a_this, oX8 a_this_bytes a_this_keys a_this_reg a_this_card a_this_filled a_this_taken a_this_line a_this_one a_this_two o_this), (a_this_reg, .inl (k_this_reg, 16, .inl (upd r_this_reg p2.toNatClampNeg ((r_this_reg p2.toNatClampNeg) - (1 : Int32)))))] H := hP
        have hD : va_D A [(a_this, oX8 a_this_bytes a_this_keys a_this_reg a_this_card a_this_filled a_this_taken a_this_line a_this_one a_this_two o_this), (a_this_reg, .inl (k_this_reg, 16, .inl (upd r_this_reg p2.toNatClampNeg ((r_this_reg p2.toNatClampNeg) - (1 : Int32)))))] := hD
        refine lv_aload_n hx hb dX8_ways_76 rfl (lv_at hl 0 rfl) ?_
        refine gf_X8_16 (v := .ref a_this_reg) hx hb hown ht hK hP 0 rfl rfl dX8_ways_77 ?_
        refine lv_iload_n hx hb dX8_ways_80 rfl (lv_at hl 2 rfl) ?_
        have hi_6 := hs
        refine va_iald hx hb hK hP 1 0 rfl rfl hi_6 dX8_ways_81 ?_
        refine lv_if_eq (tgt := 90) hx hb dX8_ways_82 (by decide) (fun c_7 => ?_) (fun c_7 => ?_)
        · skip
          rw [if_pos c_7] at hF
          exact hQ (o_this, (upd r_this_reg p2.toNatClampNeg ((r_this_reg p2.toNatClampNeg) - (1 : Int32)))) _ _ _ _ dX8_ways_90 hF.symm hP hD hS
        · skip
          rw [if_neg c_7] at hF
          refine lv_aload_n hx hb dX8_ways_85 rfl (lv_at hl 0 rfl) ?_
          refine lv_iload_n hx hb dX8_ways_86 rfl (lv_at hl 3 rfl) ?_
          refine q_Vv (rest := []) (c_X8_go l D a_this a_this_bytes a_this_keys a_this_reg a_this_card a_this_filled a_this_taken a_this_line a_this_one a_this_two o_this p3) cv_X8_go hx hb hml hown ht hN hK hA hP hD hS hl.1 (km_X8_142) ⟨Nat.le_of_ble_eq_true rfl, Nat.le_of_ble_eq_true rfl⟩ rfl rfl [0] (by decide) rfl [] rfl (fun _ => rfl) (ci := 8) rfl rfl rfl rfl rfl (Nat.le_of_ble_eq_true rfl) dX8_ways_87 ⟨Nat.zero_le _, Nat.zero_le _⟩ (fun w_8 H locs hw hP hD hS => ?_)
          have hP : va_P D vwCl [(a_this, oX8 a_this_bytes a_this_keys a_this_reg a_this_card a_this_filled a_this_taken a_this_line a_this_one a_this_two w_8), (a_this_reg, .inl (k_this_reg, 16, .inl (upd r_this_reg p2.toNatClampNeg ((r_this_reg p2.toNatClampNeg) - (1 : Int32)))))] H := hP
          have hD : va_D A [(a_this, oX8 a_this_bytes a_this_keys a_this_reg a_this_card a_this_filled a_this_taken a_this_line a_this_one a_this_two w_8), (a_this_reg, .inl (k_this_reg, 16, .inl (upd r_this_reg p2.toNatClampNeg ((r_this_reg p2.toNatClampNeg) - (1 : Int32)))))] := hD
          rw [q_let_of hw] at hF
          exact hQ (w_8, (upd r_this_reg p2.toNatClampNeg ((r_this_reg p2.toNatClampNeg) - (1 : Int32)))) _ _ _ _ dX8_ways_90 hF.symm hP hD hS
      · skip
        rw [if_pos c_3] at hF
        rw [if_pos c_3] at hs
        refine lv_aload_n hx hb dX8_ways_44 rfl (lv_at hl 0 rfl) ?_
        refine gf_X8_16 (v := .ref a_this_reg) hx hb hown ht hK hP 0 rfl rfl dX8_ways_45 ?_
        refine lv_iload_n hx hb dX8_ways_48 rfl (lv_at hl 2 rfl) ?_
        refine lv_aload_n hx hb dX8_ways_49 rfl (lv_at hl 0 rfl) ?_
        refine gf_X8_59 (v := .int o_this.2.2.2.1) hx hb hown ht hK hP 0 rfl rfl dX8_ways_50 ?_
        have hi_9 := hs
        refine va_iast hx hb hK hP hD hS 1 0 rfl rfl hi_9 dX8_ways_53 (fun H locs hP hD hS => ?_)
        have hP : va_P D vwCl [(a_this, oX8 a_this_bytes a_this_keys a_this_reg a_this_card a_this_filled a_this_taken a_this_line a_this_one a_this_two o_this), (a_this_reg, .inl (k_this_reg, 16, .inl (upd r_this_reg p2.toNatClampNeg o_this.2.2.2.1)))] H := hP
        have hD : va_D A [(a_this, oX8 a_this_bytes a_this_keys a_this_reg a_this_card a_this_filled a_this_taken a_this_line a_this_one a_this_two o_this), (a_this_reg, .inl (k_this_reg, 16, .inl (upd r_this_reg p2.toNatClampNeg o_this.2.2.2.1)))] := hD
        refine lv_aload_n hx hb dX8_ways_54 rfl (lv_at hl 0 rfl) ?_
        refine lv_iload_n hx hb dX8_ways_55 rfl (lv_at hl 3 rfl) ?_
        refine q_Vv (rest := []) (c_X8_go l D a_this a_this_bytes a_this_keys a_this_reg a_this_card a_this_filled a_this_taken a_this_line a_this_one a_this_two o_this p3) cv_X8_go hx hb hml hown ht hN hK hA hP hD hS hl.1 (km_X8_142) ⟨Nat.le_of_ble_eq_true rfl, Nat.le_of_ble_eq_true rfl⟩ rfl rfl [0] (by decide) rfl [] rfl (fun _ => rfl) (ci := 8) rfl rfl rfl rfl rfl (Nat.le_of_ble_eq_true rfl) dX8_ways_56 ⟨Nat.zero_le _, Nat.zero_le _⟩ (fun w_10 H locs hw hP hD hS => ?_)
        have hP : va_P D vwCl [(a_this, oX8 a_this_bytes a_this_keys a_this_reg a_this_card a_this_filled a_this_taken a_this_line a_this_one a_this_two w_10), (a_this_reg, .inl (k_this_reg, 16, .inl (upd r_this_reg p2.toNatClampNeg o_this.2.2.2.1)))] H := hP
        have hD : va_D A [(a_this, oX8 a_this_bytes a_this_keys a_this_reg a_this_card a_this_filled a_this_taken a_this_line a_this_one a_this_two w_10), (a_this_reg, .inl (k_this_reg, 16, .inl (upd r_this_reg p2.toNatClampNeg o_this.2.2.2.1)))] := hD
        rw [q_let_of hw] at hF
        refine lv_goto (tgt := 90) hx hb dX8_ways_59 (by decide) ?_
        exact hQ (w_10, (upd r_this_reg p2.toNatClampNeg o_this.2.2.2.1)) _ _ _ _ dX8_ways_90 hF.symm hP hD hS
    · skip
      rw [if_pos c_2] at hF
      rw [if_pos c_2] at hs
      refine lv_aload_n hx hb dX8_ways_22 rfl (lv_at hl 0 rfl) ?_
      refine lv_iload_n hx hb dX8_ways_23 rfl (lv_at hl 2 rfl) ?_
      refine q_Vi (rest := []) (c_X8_holds l D a_this a_this_bytes a_this_keys a_this_reg a_this_card a_this_filled a_this_taken a_this_line a_this_one a_this_two o_this p2) cv_X8_holds hx hb hml hown ht hN hK hA hP hD hS hl.1 (km_X8_145) ⟨Nat.le_of_ble_eq_true rfl, Nat.le_of_ble_eq_true rfl⟩ rfl rfl [0] (by decide) rfl [] rfl (fun _ => rfl) (ci := 8) rfl rfl rfl rfl rfl (Nat.le_of_ble_eq_true rfl) dX8_ways_24 ⟨Nat.zero_le _, Nat.zero_le _⟩ (fun r u H locs hw hP hD hS => ?_)
      obtain ⟨rfl, rfl⟩ := hw
      have hP : va_P D vwCl [(a_this, oX8 a_this_bytes a_this_keys a_this_reg a_this_card a_this_filled a_this_taken a_this_line a_this_one a_this_two o_this), (a_this_reg, .inl (k_this_reg, 16, .inl r_this_reg))] H := hP
      have hD : va_D A [(a_this, oX8 a_this_bytes a_this_keys a_this_reg a_this_card a_this_filled a_this_taken a_this_line a_this_one a_this_two o_this), (a_this_reg, .inl (k_this_reg, 16, .inl r_this_reg))] := hD
      refine lv_if_eq (tgt := 90) hx hb dX8_ways_27 (by decide) (fun c_12 => ?_) (fun c_12 => ?_)
      · have c_12 : ¬ (f_X8_holds o_this p2) = true := by rw [(bI_eq0 _).mp c_12]; decide
        rw [if_neg c_12] at hF
        exact hQ (o_this, r_this_reg) _ _ _ _ dX8_ways_90 hF.symm hP hD hS
      · have c_12 := (bI_ne0 _).mp c_12
        rw [if_pos c_12] at hF
        refine lv_aload_n hx hb dX8_ways_30 rfl (lv_at hl 0 rfl) ?_
        refine lv_iload_n hx hb dX8_ways_31 rfl (lv_at hl 3 rfl) ?_
        refine q_Vv (rest := []) (c_X8_go l D a_this a_this_bytes a_this_keys a_this_reg a_this_card a_this_filled a_this_taken a_this_line a_this_one a_this_two o_this p3) cv_X8_go hx hb hml hown ht hN hK hA hP hD hS hl.1 (km_X8_142) ⟨Nat.le_of_ble_eq_true rfl, Nat.le_of_ble_eq_true rfl⟩ rfl rfl [0] (by decide) rfl [] rfl (fun _ => rfl) (ci := 8) rfl rfl rfl rfl rfl (Nat.le_of_ble_eq_true rfl) dX8_ways_32 ⟨Nat.zero_le _, Nat.zero_le _⟩ (fun w_13 H locs hw hP hD hS => ?_)
        have hP : va_P D vwCl [(a_this, oX8 a_this_bytes a_this_keys a_this_reg a_this_card a_this_filled a_this_taken a_this_line a_this_one a_this_two w_13), (a_this_reg, .inl (k_this_reg, 16, .inl r_this_reg))] H := hP
        have hD : va_D A [(a_this, oX8 a_this_bytes a_this_keys a_this_reg a_this_card a_this_filled a_this_taken a_this_line a_this_one a_this_two w_13), (a_this_reg, .inl (k_this_reg, 16, .inl r_this_reg))] := hD
        rw [q_let_of hw] at hF
        refine lv_goto (tgt := 90) hx hb dX8_ways_35 (by decide) ?_
        exact hQ (w_13, r_this_reg) _ _ _ _ dX8_ways_90 hF.symm hP hD hS
  · skip
    rw [if_pos c_1] at hF
    rw [if_pos c_1] at hs
    refine lv_aload_n hx hb dX8_ways_6 rfl (lv_at hl 0 rfl) ?_
    refine gf_X8_16 (v := .ref a_this_reg) hx hb hown ht hK hP 0 rfl rfl dX8_ways_7 ?_
    refine lv_iload_n hx hb dX8_ways_10 rfl (lv_at hl 2 rfl) ?_
    refine lv_iload_n hx hb dX8_ways_11 rfl (lv_at hl 3 rfl) ?_
    have hi_14 := hs
    refine va_iast hx hb hK hP hD hS 1 0 rfl rfl hi_14 dX8_ways_12 (fun H locs hP hD hS => ?_)
    have hP : va_P D vwCl [(a_this, oX8 a_this_bytes a_this_keys a_this_reg a_this_card a_this_filled a_this_taken a_this_line a_this_one a_this_two o_this), (a_this_reg, .inl (k_this_reg, 16, .inl (upd r_this_reg p2.toNatClampNeg p3)))] H := hP
    have hD : va_D A [(a_this, oX8 a_this_bytes a_this_keys a_this_reg a_this_card a_this_filled a_this_taken a_this_line a_this_one a_this_two o_this), (a_this_reg, .inl (k_this_reg, 16, .inl (upd r_this_reg p2.toNatClampNeg p3)))] := hD
    refine lv_goto (tgt := 90) hx hb dX8_ways_13 (by decide) ?_
    exact hQ (o_this, (upd r_this_reg p2.toNatClampNeg p3)) _ _ _ _ dX8_ways_90 hF.symm hP hD hS
theorem cv_X8_ways : qV yX8_ways cX8_ways 4 none 3 := ⟨kc_X8_ways, kt_X8_ways, ks_X8_ways, kn_X8, by decide, by decide +kernel⟩
def f_X8_half (r_this_bytes : Nat → Int32) (p1 : Int32) (p2 : Int32) (p3 : Int32) : Int32 := (if (p3 - p3 / (2 : Int32) * (2 : Int32)) = 0 then ((r_this_bytes (((p1 + p2) - (1 : Int32)) - (p3 / (2 : Int32))).toNatClampNeg) - (r_this_bytes (((p1 + p2) - (1 : Int32)) - (p3 / (2 : Int32))).toNatClampNeg) / (16 : Int32) * (16 : Int32)) else ((r_this_bytes (((p1 + p2) - (1 : Int32)) - (p3 / (2 : Int32))).toNatClampNeg) / (16 : Int32)))
def s_X8_half (p1 : Int32) (p2 : Int32) (p3 : Int32) : Prop := vp_in (((p1 + p2) - (1 : Int32)) - (p3 / (2 : Int32))) 2048
set_option linter.all false in
set_option maxHeartbeats 4000000 in
set_option maxRecDepth 100000 in
theorem c_X8_half (l : Launch) (D : va_G) (a_this a_this_bytes a_this_keys a_this_reg a_this_card a_this_filled a_this_taken a_this_line a_this_one a_this_two : Nat) (k_this_bytes : ClassId) (o_this : Int32 × Int32 × Int32 × Int32 × Bool × Bool × Int32 × Int32 × Int32 × Int32 × Bool × Bool × Bool × Int32 × Int32 × Int32 × Int32 × Int32 × Int32 × Int32 × Int32 × Int32 × Int32 × Int32 × Int32) (r_this_bytes : Nat → Int32) (p1 : Int32) (p2 : Int32) (p3 : Int32) (hs : s_X8_half p1 p2 p3) : CtI l yX8_half cX8_half 5 (some .int) { frames := 0, cells := 0, slots := 0, locals := 0 } D [.ref a_this, .int p1, .int p2, .int p3] [(a_this, oX8 a_this_bytes a_this_keys a_this_reg a_this_card a_this_filled a_this_taken a_this_line a_this_one a_this_two o_this), (a_this_bytes, .inl (k_this_bytes, 2048, .inl r_this_bytes))] [(k_this_bytes, .int)] (fun (r : Int32) (u : Int32) => f_X8_half r_this_bytes p1 p2 p3 = u ∧ r = u) (fun u => [(a_this, oX8 a_this_bytes a_this_keys a_this_reg a_this_card a_this_filled a_this_taken a_this_line a_this_one a_this_two o_this), (a_this_bytes, .inl (k_this_bytes, 2048, .inl r_this_bytes))]) := by
  refine CtI.of (by decide) (Nat.le_of_ble_eq_true rfl) ?_
  intro p e s m below meth c A ls Q hE hP hD hS hl hQ
  obtain ⟨hx, hb, hml, hown, ht, hN, hK, hA⟩ := hE
  have hown : s.vm.findClass RX8 = some m.cls := hown
  have hl : lv_has ls 5 [(0, .ref a_this), (1, .int p1), (2, .int p2), (3, .int p3)] := hl
  obtain ⟨F, hF⟩ : ∃ F, f_X8_half r_this_bytes p1 p2 p3 = F := ⟨_, rfl⟩
  rw [hF] at hQ
  unfold f_X8_half at hF
  unfold s_X8_half at hs
  refine lv_aload_n hx hb dX8_half_0 rfl (lv_at hl 0 rfl) ?_
  refine gf_X8_7 (v := .ref a_this_bytes) hx hb hown ht hK hP 0 rfl rfl dX8_half_1 ?_
  refine lv_iload_n hx hb dX8_half_4 rfl (lv_at hl 1 rfl) ?_
  refine lv_iload_n hx hb dX8_half_5 rfl (lv_at hl 2 rfl) ?_
  refine lv_iadd hx hb dX8_half_6 ?_
  refine lv_iconst (v := 1) hx hb dX8_half_7 (by decide) ?_
  refine lv_isub hx hb dX8_half_8 ?_
  refine lv_iload_n hx hb dX8_half_9 rfl (lv_at hl 3 rfl) ?_
  refine lv_iconst (v := 2) hx hb dX8_half_10 (by decide) ?_
  refine lv_idiv hx hb dX8_half_11 (by decide) ?_
  refine lv_isub hx hb dX8_half_12 ?_
  have hi_1 := hs
  refine va_iald hx hb hK hP 1 0 rfl rfl hi_1 dX8_half_13 ?_
  refine lv_istore (lv' := [(4, .int (r_this_bytes (((p1 + p2) - (1 : Int32)) - (p3 / (2 : Int32))).toNatClampNeg)), (0, .ref a_this), (1, .int p1), (2, .int p2), (3, .int p3)]) hx hb dX8_half_14 hl (by decide) rfl (fun ls hl => ?_)
  refine lv_iload_n hx hb dX8_half_16 rfl (lv_at hl 4 rfl) ?_
  refine lv_iconst (v := 2) hx hb dX8_half_17 (by decide) ?_
  refine lv_irem hx hb dX8_half_18 (by decide) ?_
  refine lv_if_ne (tgt := 30) hx hb dX8_half_19 (by decide) (fun c_2 => ?_) (fun c_2 => ?_)
  · skip
    rw [if_neg c_2] at hF
    refine lv_iload hx hb dX8_half_30 (lv_at hl 0 rfl) ?_
    refine lv_bipush (v := 16) hx hb dX8_half_32 (by decide) ?_
    refine lv_idiv hx hb dX8_half_34 (by decide) ?_
    exact hQ ((r_this_bytes (((p1 + p2) - (1 : Int32)) - (p3 / (2 : Int32))).toNatClampNeg) / (16 : Int32)) ((r_this_bytes (((p1 + p2) - (1 : Int32)) - (p3 / (2 : Int32))).toNatClampNeg) / (16 : Int32)) _ _ _ _ dX8_half_35 ⟨hF.symm, rfl⟩ hP hD hS
  · skip
    rw [if_pos c_2] at hF
    refine lv_iload hx hb dX8_half_22 (lv_at hl 0 rfl) ?_
    refine lv_bipush (v := 16) hx hb dX8_half_24 (by decide) ?_
    refine lv_irem hx hb dX8_half_26 (by decide) ?_
    refine lv_goto (tgt := 35) hx hb dX8_half_27 (by decide) ?_
    exact hQ ((r_this_bytes (((p1 + p2) - (1 : Int32)) - (p3 / (2 : Int32))).toNatClampNeg) - (r_this_bytes (((p1 + p2) - (1 : Int32)) - (p3 / (2 : Int32))).toNatClampNeg) / (16 : Int32) * (16 : Int32)) ((r_this_bytes (((p1 + p2) - (1 : Int32)) - (p3 / (2 : Int32))).toNatClampNeg) - (r_this_bytes (((p1 + p2) - (1 : Int32)) - (p3 / (2 : Int32))).toNatClampNeg) / (16 : Int32) * (16 : Int32)) _ _ _ _ dX8_half_35 ⟨hF.symm, rfl⟩ hP hD hS
theorem cv_X8_half : qV yX8_half cX8_half 5 (some .int) 3 := ⟨kc_X8_half, kt_X8_half, ks_X8_half, kn_X8, by decide, by decide +kernel⟩
def f_X8_unpackA_L26 (r_this_bytes : Nat → Int32) (p2 : Int32) (p3 : Int32) : Nat → (Nat → Int32) → Int32 → Bool → Bool × (Nat → Int32)
  | 0, r_this_one_L26, x6, x5 => (false, r_this_one_L26)
  | fuel + 1, r_this_one_L26, x6, x5 => (if (40 : Int32) ≤ x6 then (x5, r_this_one_L26) else (if (((2 : Int32) * p3) - (1 : Int32)) ≤ x6 then (if x5 = true then (if (f_X8_half r_this_bytes p2 p3 0) = (11 : Int32) then f_X8_unpackA_L26 r_this_bytes p2 p3 fuel (upd r_this_one_L26 x6.toNatClampNeg (-0)) (x6 + (1 : Int32)) true else (if (f_X8_half r_this_bytes p2 p3 0) = (13 : Int32) then f_X8_unpackA_L26 r_this_bytes p2 p3 fuel (upd r_this_one_L26 x6.toNatClampNeg (-0)) (x6 + (1 : Int32)) true else f_X8_unpackA_L26 r_this_bytes p2 p3 fuel (upd r_this_one_L26 x6.toNatClampNeg 0) (x6 + (1 : Int32)) true)) else (if (f_X8_half r_this_bytes p2 p3 0) = (11 : Int32) then f_X8_unpackA_L26 r_this_bytes p2 p3 fuel (upd r_this_one_L26 x6.toNatClampNeg (-0)) (x6 + (1 : Int32)) false else (if (f_X8_half r_this_bytes p2 p3 0) = (13 : Int32) then f_X8_unpackA_L26 r_this_bytes p2 p3 fuel (upd r_this_one_L26 x6.toNatClampNeg (-0)) (x6 + (1 : Int32)) false else f_X8_unpackA_L26 r_this_bytes p2 p3 fuel (upd r_this_one_L26 x6.toNatClampNeg 0) (x6 + (1 : Int32)) false))) else (if x5 = true then (if (10 : Int32) ≤ (f_X8_half r_this_bytes p2 p3 (x6 + (1 : Int32))) then (if (f_X8_half r_this_bytes p2 p3 0) = (11 : Int32) then f_X8_unpackA_L26 r_this_bytes p2 p3 fuel (upd r_this_one_L26 x6.toNatClampNeg (-(f_X8_half r_this_bytes p2 p3 (x6 + (1 : Int32))))) (x6 + (1 : Int32)) false else (if (f_X8_half r_this_bytes p2 p3 0) = (13 : Int32) then f_X8_unpackA_L26 r_this_bytes p2 p3 fuel (upd r_this_one_L26 x6.toNatClampNeg (-(f_X8_half r_this_bytes p2 p3 (x6 + (1 : Int32))))) (x6 + (1 : Int32)) false else f_X8_unpackA_L26 r_this_bytes p2 p3 fuel (upd r_this_one_L26 x6.toNatClampNeg (f_X8_half r_this_bytes p2 p3 (x6 + (1 : Int32)))) (x6 + (1 : Int32)) false)) else (if (f_X8_half r_this_bytes p2 p3 0) = (11 : Int32) then f_X8_unpackA_L26 r_this_bytes p2 p3 fuel (upd r_this_one_L26 x6.toNatClampNeg (-(f_X8_half r_this_bytes p2 p3 (x6 + (1 : Int32))))) (x6 + (1 : Int32)) true else (if (f_X8_half r_this_bytes p2 p3 0) = (13 : Int32) then f_X8_unpackA_L26 r_this_bytes p2 p3 fuel (upd r_this_one_L26 x6.toNatClampNeg (-(f_X8_half r_this_bytes p2 p3 (x6 + (1 : Int32))))) (x6 + (1 : Int32)) true else f_X8_unpackA_L26 r_this_bytes p2 p3 fuel (upd r_this_one_L26 x6.toNatClampNeg (f_X8_half r_this_bytes p2 p3 (x6 + (1 : Int32)))) (x6 + (1 : Int32)) true))) else (if (f_X8_half r_this_bytes p2 p3 0) = (11 : Int32) then f_X8_unpackA_L26 r_this_bytes p2 p3 fuel (upd r_this_one_L26 x6.toNatClampNeg (-(f_X8_half r_this_bytes p2 p3 (x6 + (1 : Int32))))) (x6 + (1 : Int32)) false else (if (f_X8_half r_this_bytes p2 p3 0) = (13 : Int32) then f_X8_unpackA_L26 r_this_bytes p2 p3 fuel (upd r_this_one_L26 x6.toNatClampNeg (-(f_X8_half r_this_bytes p2 p3 (x6 + (1 : Int32))))) (x6 + (1 : Int32)) false else f_X8_unpackA_L26 r_this_bytes p2 p3 fuel (upd r_this_one_L26 x6.toNatClampNeg (f_X8_half r_this_bytes p2 p3 (x6 + (1 : Int32)))) (x6 + (1 : Int32)) false)))))
def s_X8_unpackA_L26 (r_this_bytes : Nat → Int32) (p2 : Int32) (p3 : Int32) : Nat → (Nat → Int32) → Int32 → Bool → Prop
  | 0, _, _, _ => True
  | fuel + 1, r_this_one_L26, x6, x5 => (if (40 : Int32) ≤ x6 then True else (if (((2 : Int32) * p3) - (1 : Int32)) ≤ x6 then (if x5 = true then (if (f_X8_half r_this_bytes p2 p3 0) = (11 : Int32) then s_X8_unpackA_L26 r_this_bytes p2 p3 fuel (upd r_this_one_L26 x6.toNatClampNeg (-0)) (x6 + (1 : Int32)) true else (if (f_X8_half r_this_bytes p2 p3 0) = (13 : Int32) then s_X8_unpackA_L26 r_this_bytes p2 p3 fuel (upd r_this_one_L26 x6.toNatClampNeg (-0)) (x6 + (1 : Int32)) true else s_X8_unpackA_L26 r_this_bytes p2 p3 fuel (upd r_this_one_L26 x6.toNatClampNeg 0) (x6 + (1 : Int32)) true)) else (if (f_X8_half r_this_bytes p2 p3 0) = (11 : Int32) then s_X8_unpackA_L26 r_this_bytes p2 p3 fuel (upd r_this_one_L26 x6.toNatClampNeg (-0)) (x6 + (1 : Int32)) false else (if (f_X8_half r_this_bytes p2 p3 0) = (13 : Int32) then s_X8_unpackA_L26 r_this_bytes p2 p3 fuel (upd r_this_one_L26 x6.toNatClampNeg (-0)) (x6 + (1 : Int32)) false else s_X8_unpackA_L26 r_this_bytes p2 p3 fuel (upd r_this_one_L26 x6.toNatClampNeg 0) (x6 + (1 : Int32)) false))) else (s_X8_half p2 p3 (x6 + (1 : Int32)) ∧ (if x5 = true then (if (10 : Int32) ≤ (f_X8_half r_this_bytes p2 p3 (x6 + (1 : Int32))) then (if (f_X8_half r_this_bytes p2 p3 0) = (11 : Int32) then s_X8_unpackA_L26 r_this_bytes p2 p3 fuel (upd r_this_one_L26 x6.toNatClampNeg (-(f_X8_half r_this_bytes p2 p3 (x6 + (1 : Int32))))) (x6 + (1 : Int32)) false else (if (f_X8_half r_this_bytes p2 p3 0) = (13 : Int32) then s_X8_unpackA_L26 r_this_bytes p2 p3 fuel (upd r_this_one_L26 x6.toNatClampNeg (-(f_X8_half r_this_bytes p2 p3 (x6 + (1 : Int32))))) (x6 + (1 : Int32)) false else s_X8_unpackA_L26 r_this_bytes p2 p3 fuel (upd r_this_one_L26 x6.toNatClampNeg (f_X8_half r_this_bytes p2 p3 (x6 + (1 : Int32)))) (x6 + (1 : Int32)) false)) else (if (f_X8_half r_this_bytes p2 p3 0) = (11 : Int32) then s_X8_unpackA_L26 r_this_bytes p2 p3 fuel (upd r_this_one_L26 x6.toNatClampNeg (-(f_X8_half r_this_bytes p2 p3 (x6 + (1 : Int32))))) (x6 + (1 : Int32)) true else (if (f_X8_half r_this_bytes p2 p3 0) = (13 : Int32) then s_X8_unpackA_L26 r_this_bytes p2 p3 fuel (upd r_this_one_L26 x6.toNatClampNeg (-(f_X8_half r_this_bytes p2 p3 (x6 + (1 : Int32))))) (x6 + (1 : Int32)) true else s_X8_unpackA_L26 r_this_bytes p2 p3 fuel (upd r_this_one_L26 x6.toNatClampNeg (f_X8_half r_this_bytes p2 p3 (x6 + (1 : Int32)))) (x6 + (1 : Int32)) true))) else (if (f_X8_half r_this_bytes p2 p3 0) = (11 : Int32) then s_X8_unpackA_L26 r_this_bytes p2 p3 fuel (upd r_this_one_L26 x6.toNatClampNeg (-(f_X8_half r_this_bytes p2 p3 (x6 + (1 : Int32))))) (x6 + (1 : Int32)) false else (if (f_X8_half r_this_bytes p2 p3 0) = (13 : Int32) then s_X8_unpackA_L26 r_this_bytes p2 p3 fuel (upd r_this_one_L26 x6.toNatClampNeg (-(f_X8_half r_this_bytes p2 p3 (x6 + (1 : Int32))))) (x6 + (1 : Int32)) false else s_X8_unpackA_L26 r_this_bytes p2 p3 fuel (upd r_this_one_L26 x6.toNatClampNeg (f_X8_half r_this_bytes p2 p3 (x6 + (1 : Int32)))) (x6 + (1 : Int32)) false))))))
def f_X8_unpackA (r_this_bytes : Nat → Int32) (r_this_one : Nat → Int32) (p2 : Int32) (p3 : Int32) : Bool × (Nat → Int32) := (if (f_X8_half r_this_bytes p2 p3 0) ≤ (9 : Int32) then f_X8_unpackA_L26 r_this_bytes p2 p3 (((40 : Int32).toInt - (0 : Int32).toInt).toNat + 1) r_this_one 0 false else f_X8_unpackA_L26 r_this_bytes p2 p3 (((40 : Int32).toInt - (0 : Int32).toInt).toNat + 1) r_this_one 0 true)
def s_X8_unpackA (r_this_bytes : Nat → Int32) (r_this_one : Nat → Int32) (p2 : Int32) (p3 : Int32) : Prop := (s_X8_half p2 p3 0 ∧ (if (f_X8_half r_this_bytes p2 p3 0) ≤ (9 : Int32) then s_X8_unpackA_L26 r_this_bytes p2 p3 (((40 : Int32).toInt - (0 : Int32).toInt).toNat + 1) r_this_one 0 false else s_X8_unpackA_L26 r_this_bytes p2 p3 (((40 : Int32).toInt - (0 : Int32).toInt).toNat + 1) r_this_one 0 true))
set_option linter.all false in
set_option maxHeartbeats 4000000 in
set_option maxRecDepth 100000 in
theorem c_X8_unpackA (l : Launch) (D : va_G) (a_this a_this_bytes a_this_one a_this_keys a_this_reg a_this_card a_this_filled a_this_taken a_this_line a_this_two : Nat) (k_this_bytes k_this_one : ClassId) (o_this : Int32 × Int32 × Int32 × Int32 × Bool × Bool × Int32 × Int32 × Int32 × Int32 × Bool × Bool × Bool × Int32 × Int32 × Int32 × Int32 × Int32 × Int32 × Int32 × Int32 × Int32 × Int32 × Int32 × Int32) (r_this_bytes : Nat → Int32) (r_this_one : Nat → Int32) (p2 : Int32) (p3 : Int32) (hs : s_X8_unpackA r_this_bytes r_this_one p2 p3) : CtI l yX8_unpack cX8_unpack 8 (some .boolean) { frames := 1, cells := 0, slots := 0, locals := 24 } D [.ref a_this, .ref a_this_one, .int p2, .int p3] [(a_this, oX8 a_this_bytes a_this_keys a_this_reg a_this_card a_this_filled a_this_taken a_this_line a_this_one a_this_two o_this), (a_this_bytes, .inl (k_this_bytes, 2048, .inl r_this_bytes)), (a_this_one, .inl (k_this_one, 40, .inl r_this_one))] [(k_this_bytes, .int), (k_this_one, .int)] (fun (r : Int32) (u : Bool × (Nat → Int32)) => f_X8_unpackA r_this_bytes r_this_one p2 p3 = u ∧ r = bI u.1) (fun u => [(a_this, oX8 a_this_bytes a_this_keys a_this_reg a_this_card a_this_filled a_this_taken a_this_line a_this_one a_this_two o_this), (a_this_bytes, .inl (k_this_bytes, 2048, .inl r_this_bytes)), (a_this_one, .inl (k_this_one, 40, .inl u.2))]) := by
  refine CtI.ofZ (by decide) (Nat.le_of_ble_eq_true rfl) ?_
  intro p e s m below meth c A ls Q hE hP hD hS hl hQ
  obtain ⟨hx, hb, hml, hown, ht, hN, hK, hA⟩ := hE
  have hown : s.vm.findClass RX8 = some m.cls := hown
  have hl : lv_has ls 8 [(0, .ref a_this), (1, .ref a_this_one), (2, .int p2), (3, .int p3)] := hl
  obtain ⟨F, hF⟩ : ∃ F, f_X8_unpackA r_this_bytes r_this_one p2 p3 = F := ⟨_, rfl⟩
  rw [hF] at hQ
  unfold f_X8_unpackA at hF
  unfold s_X8_unpackA at hs
  refine lv_aload_n hx hb dX8_unpack_0 rfl (lv_at hl 0 rfl) ?_
  refine lv_iload_n hx hb dX8_unpack_1 rfl (lv_at hl 2 rfl) ?_
  refine lv_iload_n hx hb dX8_unpack_2 rfl (lv_at hl 3 rfl) ?_
  refine lv_iconst (v := 0) hx hb dX8_unpack_3 (by decide) ?_
  obtain ⟨hi_1, hs⟩ := hs
  refine q_Vi (rest := []) (c_X8_half l D a_this a_this_bytes a_this_keys a_this_reg a_this_card a_this_filled a_this_taken a_this_line a_this_one a_this_two k_this_bytes o_this r_this_bytes p2 p3 0 hi_1) cv_X8_half hx hb hml hown ht hN hK hA hP hD hS hl.1 (km_X8_203) ⟨Nat.le_of_ble_eq_true rfl, Nat.le_of_ble_eq_true rfl⟩ rfl rfl [0, 1] (by decide) rfl [0] rfl (fun _ => rfl) (ci := 8) rfl rfl rfl rfl rfl (Nat.le_of_ble_eq_true rfl) dX8_unpack_4 ⟨Nat.zero_le _, Nat.zero_le _⟩ (fun r u H locs hw hP hD hS => ?_)
  obtain ⟨rfl, rfl⟩ := hw
  have hP : va_P D vwCl [(a_this, oX8 a_this_bytes a_this_keys a_this_reg a_this_card a_this_filled a_this_taken a_this_line a_this_one a_this_two o_this), (a_this_bytes, .inl (k_this_bytes, 2048, .inl r_this_bytes)), (a_this_one, .inl (k_this_one, 40, .inl r_this_one))] H := hP
  have hD : va_D A [(a_this, oX8 a_this_bytes a_this_keys a_this_reg a_this_card a_this_filled a_this_taken a_this_line a_this_one a_this_two o_this), (a_this_bytes, .inl (k_this_bytes, 2048, .inl r_this_bytes)), (a_this_one, .inl (k_this_one, 40, .inl r_this_one))] := hD
  refine lv_istore (lv' := [(4, .int (f_X8_half r_this_bytes p2 p3 0)), (0, .ref a_this), (1, .ref a_this_one), (2, .int p2), (3, .int p3)]) hx hb dX8_unpack_7 hl (by decide) rfl (fun ls hl => ?_)
  refine lv_iload hx hb dX8_unpack_9 (lv_at hl 0 rfl) ?_
  refine lv_bipush (v := 9) hx hb dX8_unpack_11 (by decide) ?_
  refine lv_icmp_le (tgt := 20) hx hb dX8_unpack_13 (by decide) (fun c_3 => ?_) (fun c_3 => ?_)
  · skip
    rw [if_pos c_3] at hF
    rw [if_pos c_3] at hs
    refine lv_iconst (v := 0) hx hb dX8_unpack_20 (by decide) ?_
    refine lv_istore (lv' := [(5, .int 0), (4, .int (f_X8_half r_this_bytes p2 p3 0)), (0, .ref a_this), (1, .ref a_this_one), (2, .int p2), (3, .int p3)]) hx hb dX8_unpack_21 hl (by decide) rfl (fun ls hl => ?_)
    refine lv_iconst (v := 0) hx hb dX8_unpack_23 (by decide) ?_
    refine lv_istore (lv' := [(6, .int 0), (5, .int 0), (4, .int (f_X8_half r_this_bytes p2 p3 0)), (0, .ref a_this), (1, .ref a_this_one), (2, .int p2), (3, .int p3)]) hx hb dX8_unpack_24 hl (by decide) rfl (fun ls hl => ?_)
    have L26 : ∀ (fuel : Nat) (r_this_one_L26 : Nat → Int32) (x6 : Int32) (x5 : Bool) (H : Heap) (locs : List Loc) (ls : Array Slot), ((40 : Int32).toInt - (x6 : Int32).toInt).toNat < fuel → ¬ x6 < 0 → va_P D vwCl [(a_this, oX8 a_this_bytes a_this_keys a_this_reg a_this_card a_this_filled a_this_taken a_this_line a_this_one a_this_two o_this), (a_this_bytes, .inl (k_this_bytes, 2048, .inl r_this_bytes)), (a_this_one, .inl (k_this_one, 40, .inl r_this_one_L26))] H → va_D A [(a_this, oX8 a_this_bytes a_this_keys a_this_reg a_this_card a_this_filled a_this_taken a_this_line a_this_one a_this_two o_this), (a_this_bytes, .inl (k_this_bytes, 2048, .inl r_this_bytes)), (a_this_one, .inl (k_this_one, 40, .inl r_this_one_L26))] → va_S A s.heap H locs → lv_has ls 8 [(6, .int x6), (5, .int (bI x5)), (4, .int (f_X8_half r_this_bytes p2 p3 0)), (0, .ref a_this), (1, .ref a_this_one), (2, .int p2), (3, .int p3)] → f_X8_unpackA_L26 r_this_bytes p2 p3 fuel r_this_one_L26 x6 x5 = F → s_X8_unpackA_L26 r_this_bytes p2 p3 fuel r_this_one_L26 x6 x5 → W p l e ({ frames := 1, cells := 0, slots := 0, locals := 24 } : Room) s m ([.ref a_this, .ref a_this_one, .int p2, .int p3] : List Value).toArray below meth c H locs 0 0 Q (F0 m 26 ls []) := by
      intro fuel
      induction fuel with
      | zero => intro r_this_one_L26 x6 x5 H locs ls hm; exact absurd hm (Nat.not_lt_zero _)
      | succ fuel ih =>
        intro r_this_one_L26 x6 x5 H locs ls hm hv hP hD hS hl hF hs
        rw [f_X8_unpackA_L26] at hF
        rw [s_X8_unpackA_L26] at hs
        skip
        refine lv_iload hx hb dX8_unpack_26 (lv_at hl 0 rfl) ?_
        refine lv_bipush (v := 40) hx hb dX8_unpack_28 (by decide) ?_
        refine lv_icmp_ge (tgt := 110) hx hb dX8_unpack_30 (by decide) (fun c_5 => ?_) (fun c_5 => ?_)
        · skip
          rw [if_pos c_5] at hF
          rw [if_pos c_5] at hs
          refine lv_iload hx hb dX8_unpack_110 (lv_at hl 1 rfl) ?_
          exact hQ x5 (x5, r_this_one_L26) _ _ _ _ dX8_unpack_112 ⟨hF.symm, rfl⟩ hP hD hS
        · skip
          rw [if_neg c_5] at hF
          rw [if_neg c_5] at hs
          refine lv_iload hx hb dX8_unpack_33 (lv_at hl 0 rfl) ?_
          refine lv_iconst (v := 2) hx hb dX8_unpack_35 (by decide) ?_
          refine lv_iload_n hx hb dX8_unpack_36 rfl (lv_at hl 6 rfl) ?_
          refine lv_imul hx hb dX8_unpack_37 ?_
          refine lv_iconst (v := 1) hx hb dX8_unpack_38 (by decide) ?_
          refine lv_isub hx hb dX8_unpack_39 ?_
          refine lv_icmp_ge (tgt := 56) hx hb dX8_unpack_40 (by decide) (fun c_6 => ?_) (fun c_6 => ?_)
          · skip
            rw [if_pos c_6] at hF
            rw [if_pos c_6] at hs
            refine lv_iconst (v := 0) hx hb dX8_unpack_56 (by decide) ?_
            refine lv_istore (lv' := [(7, .int 0), (6, .int x6), (5, .int (bI x5)), (4, .int (f_X8_half r_this_bytes p2 p3 0)), (0, .ref a_this), (1, .ref a_this_one), (2, .int p2), (3, .int p3)]) hx hb dX8_unpack_57 hl (by decide) rfl (fun ls hl => ?_)
            refine lv_iload hx hb dX8_unpack_59 (lv_at hl 2 rfl) ?_
            refine lv_if_eq (tgt := 75) hx hb dX8_unpack_61 (by decide) (fun c_7 => ?_) (fun c_7 => ?_)
            · have c_7 : ¬ x5 = true := by rw [(bI_eq0 _).mp c_7]; decide
              rw [if_neg c_7] at hF
              rw [if_neg c_7] at hs
              refine lv_iconst (v := 0) hx hb dX8_unpack_75 (by decide) ?_
              refine lv_istore (lv' := [(5, .int 0), (7, .int 0), (6, .int x6), (4, .int (f_X8_half r_this_bytes p2 p3 0)), (0, .ref a_this), (1, .ref a_this_one), (2, .int p2), (3, .int p3)]) hx hb dX8_unpack_76 hl (by decide) rfl (fun ls hl => ?_)
              refine lv_aload_n hx hb dX8_unpack_78 rfl (lv_at hl 5 rfl) ?_
              refine lv_iload hx hb dX8_unpack_79 (lv_at hl 2 rfl) ?_
              refine lv_iload hx hb dX8_unpack_81 (lv_at hl 3 rfl) ?_
              refine lv_bipush (v := 11) hx hb dX8_unpack_83 (by decide) ?_
              refine lv_icmp_eq (tgt := 95) hx hb dX8_unpack_85 (by decide) (fun c_8 => ?_) (fun c_8 => ?_)
              · skip
                rw [if_pos c_8] at hF
                rw [if_pos c_8] at hs
                refine lv_iload hx hb dX8_unpack_95 (lv_at hl 1 rfl) ?_
                refine lv_ineg hx hb dX8_unpack_97 ?_
                refine lv_goto (tgt := 103) hx hb dX8_unpack_98 (by decide) ?_
                refine va_iast hx hb hK hP hD hS 2 1 rfl rfl (q_in hv c_5 (by decide)) dX8_unpack_103 (fun H locs hP hD hS => ?_)
                have hP : va_P D vwCl [(a_this, oX8 a_this_bytes a_this_keys a_this_reg a_this_card a_this_filled a_this_taken a_this_line a_this_one a_this_two o_this), (a_this_bytes, .inl (k_this_bytes, 2048, .inl r_this_bytes)), (a_this_one, .inl (k_this_one, 40, .inl (upd r_this_one_L26 x6.toNatClampNeg (-0))))] H := hP
                have hD : va_D A [(a_this, oX8 a_this_bytes a_this_keys a_this_reg a_this_card a_this_filled a_this_taken a_this_line a_this_one a_this_two o_this), (a_this_bytes, .inl (k_this_bytes, 2048, .inl r_this_bytes)), (a_this_one, .inl (k_this_one, 40, .inl (upd r_this_one_L26 x6.toNatClampNeg (-0))))] := hD
                refine lv_iinc (v := (x6 + (1 : Int32))) (lv' := [(6, .int (x6 + (1 : Int32))), (5, .int 0), (7, .int 0), (4, .int (f_X8_half r_this_bytes p2 p3 0)), (0, .ref a_this), (1, .ref a_this_one), (2, .int p2), (3, .int p3)]) hx hb dX8_unpack_104 hl (k := 2) rfl rfl (by decide) rfl (fun ls hl => ?_)
                refine lv_goto (tgt := 26) hx hb dX8_unpack_107 (by decide) ?_
                exact ih (upd r_this_one_L26 x6.toNatClampNeg (-0)) (x6 + (1 : Int32)) false _ _ _ (by first | exact q_up hm c_3 | exact q_up hm hv | exact q_up hm c_5 | exact q_up hm c_6 | exact q_up hm c_7 | exact q_up hm c_8) (by first | exact q_upnn hv c_3 | exact q_upnn hv hv | exact q_upnn hv c_5 | exact q_upnn hv c_6 | exact q_upnn hv c_7 | exact q_upnn hv c_8) hP hD hS (lv_sub hl [0, 1, 3, 4, 5, 6, 7] rfl) hF hs
              · skip
                rw [if_neg c_8] at hF
                rw [if_neg c_8] at hs
                refine lv_iload hx hb dX8_unpack_88 (lv_at hl 3 rfl) ?_
                refine lv_bipush (v := 13) hx hb dX8_unpack_90 (by decide) ?_
                refine lv_icmp_ne (tgt := 101) hx hb dX8_unpack_92 (by decide) (fun c_9 => ?_) (fun c_9 => ?_)
                · skip
                  rw [if_neg c_9] at hF
                  rw [if_neg c_9] at hs
                  refine lv_iload hx hb dX8_unpack_101 (lv_at hl 1 rfl) ?_
                  refine va_iast hx hb hK hP hD hS 2 1 rfl rfl (q_in hv c_5 (by decide)) dX8_unpack_103 (fun H locs hP hD hS => ?_)
                  have hP : va_P D vwCl [(a_this, oX8 a_this_bytes a_this_keys a_this_reg a_this_card a_this_filled a_this_taken a_this_line a_this_one a_this_two o_this), (a_this_bytes, .inl (k_this_bytes, 2048, .inl r_this_bytes)), (a_this_one, .inl (k_this_one, 40, .inl (upd r_this_one_L26 x6.toNatClampNeg 0)))] H := hP
                  have hD : va_D A [(a_this, oX8 a_this_bytes a_this_keys a_this_reg a_this_card a_this_filled a_this_taken a_this_line a_this_one a_this_two o_this), (a_this_bytes, .inl (k_this_bytes, 2048, .inl r_this_bytes)), (a_this_one, .inl (k_this_one, 40, .inl (upd r_this_one_L26 x6.toNatClampNeg 0)))] := hD
                  refine lv_iinc (v := (x6 + (1 : Int32))) (lv' := [(6, .int (x6 + (1 : Int32))), (5, .int 0), (7, .int 0), (4, .int (f_X8_half r_this_bytes p2 p3 0)), (0, .ref a_this), (1, .ref a_this_one), (2, .int p2), (3, .int p3)]) hx hb dX8_unpack_104 hl (k := 2) rfl rfl (by decide) rfl (fun ls hl => ?_)
                  refine lv_goto (tgt := 26) hx hb dX8_unpack_107 (by decide) ?_
                  exact ih (upd r_this_one_L26 x6.toNatClampNeg 0) (x6 + (1 : Int32)) false _ _ _ (by first | exact q_up hm c_3 | exact q_up hm hv | exact q_up hm c_5 | exact q_up hm c_6 | exact q_up hm c_7 | exact q_up hm c_8 | exact q_up hm c_9) (by first | exact q_upnn hv c_3 | exact q_upnn hv hv | exact q_upnn hv c_5 | exact q_upnn hv c_6 | exact q_upnn hv c_7 | exact q_upnn hv c_8 | exact q_upnn hv c_9) hP hD hS (lv_sub hl [0, 1, 3, 4, 5, 6, 7] rfl) hF hs
                · skip
                  rw [if_pos c_9] at hF
                  rw [if_pos c_9] at hs
                  refine lv_iload hx hb dX8_unpack_95 (lv_at hl 1 rfl) ?_
                  refine lv_ineg hx hb dX8_unpack_97 ?_
                  refine lv_goto (tgt := 103) hx hb dX8_unpack_98 (by decide) ?_
                  refine va_iast hx hb hK hP hD hS 2 1 rfl rfl (q_in hv c_5 (by decide)) dX8_unpack_103 (fun H locs hP hD hS => ?_)
                  have hP : va_P D vwCl [(a_this, oX8 a_this_bytes a_this_keys a_this_reg a_this_card a_this_filled a_this_taken a_this_line a_this_one a_this_two o_this), (a_this_bytes, .inl (k_this_bytes, 2048, .inl r_this_bytes)), (a_this_one, .inl (k_this_one, 40, .inl (upd r_this_one_L26 x6.toNatClampNeg (-0))))] H := hP
                  have hD : va_D A [(a_this, oX8 a_this_bytes a_this_keys a_this_reg a_this_card a_this_filled a_this_taken a_this_line a_this_one a_this_two o_this), (a_this_bytes, .inl (k_this_bytes, 2048, .inl r_this_bytes)), (a_this_one, .inl (k_this_one, 40, .inl (upd r_this_one_L26 x6.toNatClampNeg (-0))))] := hD
                  refine lv_iinc (v := (x6 + (1 : Int32))) (lv' := [(6, .int (x6 + (1 : Int32))), (5, .int 0), (7, .int 0), (4, .int (f_X8_half r_this_bytes p2 p3 0)), (0, .ref a_this), (1, .ref a_this_one), (2, .int p2), (3, .int p3)]) hx hb dX8_unpack_104 hl (k := 2) rfl rfl (by decide) rfl (fun ls hl => ?_)
                  refine lv_goto (tgt := 26) hx hb dX8_unpack_107 (by decide) ?_
                  exact ih (upd r_this_one_L26 x6.toNatClampNeg (-0)) (x6 + (1 : Int32)) false _ _ _ (by first | exact q_up hm c_3 | exact q_up hm hv | exact q_up hm c_5 | exact q_up hm c_6 | exact q_up hm c_7 | exact q_up hm c_8 | exact q_up hm c_9) (by first | exact q_upnn hv c_3 | exact q_upnn hv hv | exact q_upnn hv c_5 | exact q_upnn hv c_6 | exact q_upnn hv c_7 | exact q_upnn hv c_8 | exact q_upnn hv c_9) hP hD hS (lv_sub hl [0, 1, 3, 4, 5, 6, 7] rfl) hF hs
            · have c_7 := (bI_ne0 _).mp c_7
              rw [if_pos c_7] at hF
              rw [if_pos c_7] at hs
              refine lv_iload hx hb dX8_unpack_64 (lv_at hl 0 rfl) ?_
              refine lv_bipush (v := 10) hx hb dX8_unpack_66 (by decide) ?_
              refine lv_icmp_ge (tgt := 75) hx hb dX8_unpack_68 (by decide) (fun c_10 => ?_) (fun c_10 => ?_)
              · exact absurd c_10 (by decide)
              · skip
                refine lv_iconst (v := 1) hx hb dX8_unpack_71 (by decide) ?_
                refine lv_goto (tgt := 76) hx hb dX8_unpack_72 (by decide) ?_
                refine lv_istore (lv' := [(5, .int 1), (7, .int 0), (6, .int x6), (4, .int (f_X8_half r_this_bytes p2 p3 0)), (0, .ref a_this), (1, .ref a_this_one), (2, .int p2), (3, .int p3)]) hx hb dX8_unpack_76 hl (by decide) rfl (fun ls hl => ?_)
                refine lv_aload_n hx hb dX8_unpack_78 rfl (lv_at hl 5 rfl) ?_
                refine lv_iload hx hb dX8_unpack_79 (lv_at hl 2 rfl) ?_
                refine lv_iload hx hb dX8_unpack_81 (lv_at hl 3 rfl) ?_
                refine lv_bipush (v := 11) hx hb dX8_unpack_83 (by decide) ?_
                refine lv_icmp_eq (tgt := 95) hx hb dX8_unpack_85 (by decide) (fun c_11 => ?_) (fun c_11 => ?_)
                · skip
                  rw [if_pos c_11] at hF
                  rw [if_pos c_11] at hs
                  refine lv_iload hx hb dX8_unpack_95 (lv_at hl 1 rfl) ?_
                  refine lv_ineg hx hb dX8_unpack_97 ?_
                  refine lv_goto (tgt := 103) hx hb dX8_unpack_98 (by decide) ?_
                  refine va_iast hx hb hK hP hD hS 2 1 rfl rfl (q_in hv c_5 (by decide)) dX8_unpack_103 (fun H locs hP hD hS => ?_)
                  have hP : va_P D vwCl [(a_this, oX8 a_this_bytes a_this_keys a_this_reg a_this_card a_this_filled a_this_taken a_this_line a_this_one a_this_two o_this), (a_this_bytes, .inl (k_this_bytes, 2048, .inl r_this_bytes)), (a_this_one, .inl (k_this_one, 40, .inl (upd r_this_one_L26 x6.toNatClampNeg (-0))))] H := hP
                  have hD : va_D A [(a_this, oX8 a_this_bytes a_this_keys a_this_reg a_this_card a_this_filled a_this_taken a_this_line a_this_one a_this_two o_this), (a_this_bytes, .inl (k_this_bytes, 2048, .inl r_this_bytes)), (a_this_one, .inl (k_this_one, 40, .inl (upd r_this_one_L26 x6.toNatClampNeg (-0))))] := hD
                  refine lv_iinc (v := (x6 + (1 : Int32))) (lv' := [(6, .int (x6 + (1 : Int32))), (5, .int 1), (7, .int 0), (4, .int (f_X8_half r_this_bytes p2 p3 0)), (0, .ref a_this), (1, .ref a_this_one), (2, .int p2), (3, .int p3)]) hx hb dX8_unpack_104 hl (k := 2) rfl rfl (by decide) rfl (fun ls hl => ?_)
                  refine lv_goto (tgt := 26) hx hb dX8_unpack_107 (by decide) ?_
                  exact ih (upd r_this_one_L26 x6.toNatClampNeg (-0)) (x6 + (1 : Int32)) true _ _ _ (by first | exact q_up hm c_3 | exact q_up hm hv | exact q_up hm c_5 | exact q_up hm c_6 | exact q_up hm c_7 | exact q_up hm c_11) (by first | exact q_upnn hv c_3 | exact q_upnn hv hv | exact q_upnn hv c_5 | exact q_upnn hv c_6 | exact q_upnn hv c_7 | exact q_upnn hv c_11) hP hD hS (lv_sub hl [0, 1, 3, 4, 5, 6, 7] rfl) hF hs
                · skip
                  rw [if_neg c_11] at hF
                  rw [if_neg c_11] at hs
                  refine lv_iload hx hb dX8_unpack_88 (lv_at hl 3 rfl) ?_
                  refine lv_bipush (v := 13) hx hb dX8_unpack_90 (by decide) ?_
                  refine lv_icmp_ne (tgt := 101) hx hb dX8_unpack_92 (by decide) (fun c_12 => ?_) (fun c_12 => ?_)
                  · skip
                    rw [if_neg c_12] at hF
                    rw [if_neg c_12] at hs
                    refine lv_iload hx hb dX8_unpack_101 (lv_at hl 1 rfl) ?_
                    refine va_iast hx hb hK hP hD hS 2 1 rfl rfl (q_in hv c_5 (by decide)) dX8_unpack_103 (fun H locs hP hD hS => ?_)
                    have hP : va_P D vwCl [(a_this, oX8 a_this_bytes a_this_keys a_this_reg a_this_card a_this_filled a_this_taken a_this_line a_this_one a_this_two o_this), (a_this_bytes, .inl (k_this_bytes, 2048, .inl r_this_bytes)), (a_this_one, .inl (k_this_one, 40, .inl (upd r_this_one_L26 x6.toNatClampNeg 0)))] H := hP
                    have hD : va_D A [(a_this, oX8 a_this_bytes a_this_keys a_this_reg a_this_card a_this_filled a_this_taken a_this_line a_this_one a_this_two o_this), (a_this_bytes, .inl (k_this_bytes, 2048, .inl r_this_bytes)), (a_this_one, .inl (k_this_one, 40, .inl (upd r_this_one_L26 x6.toNatClampNeg 0)))] := hD
                    refine lv_iinc (v := (x6 + (1 : Int32))) (lv' := [(6, .int (x6 + (1 : Int32))), (5, .int 1), (7, .int 0), (4, .int (f_X8_half r_this_bytes p2 p3 0)), (0, .ref a_this), (1, .ref a_this_one), (2, .int p2), (3, .int p3)]) hx hb dX8_unpack_104 hl (k := 2) rfl rfl (by decide) rfl (fun ls hl => ?_)
                    refine lv_goto (tgt := 26) hx hb dX8_unpack_107 (by decide) ?_
                    exact ih (upd r_this_one_L26 x6.toNatClampNeg 0) (x6 + (1 : Int32)) true _ _ _ (by first | exact q_up hm c_3 | exact q_up hm hv | exact q_up hm c_5 | exact q_up hm c_6 | exact q_up hm c_7 | exact q_up hm c_11 | exact q_up hm c_12) (by first | exact q_upnn hv c_3 | exact q_upnn hv hv | exact q_upnn hv c_5 | exact q_upnn hv c_6 | exact q_upnn hv c_7 | exact q_upnn hv c_11 | exact q_upnn hv c_12) hP hD hS (lv_sub hl [0, 1, 3, 4, 5, 6, 7] rfl) hF hs
                  · skip
                    rw [if_pos c_12] at hF
                    rw [if_pos c_12] at hs
                    refine lv_iload hx hb dX8_unpack_95 (lv_at hl 1 rfl) ?_
                    refine lv_ineg hx hb dX8_unpack_97 ?_
                    refine lv_goto (tgt := 103) hx hb dX8_unpack_98 (by decide) ?_
                    refine va_iast hx hb hK hP hD hS 2 1 rfl rfl (q_in hv c_5 (by decide)) dX8_unpack_103 (fun H locs hP hD hS => ?_)
                    have hP : va_P D vwCl [(a_this, oX8 a_this_bytes a_this_keys a_this_reg a_this_card a_this_filled a_this_taken a_this_line a_this_one a_this_two o_this), (a_this_bytes, .inl (k_this_bytes, 2048, .inl r_this_bytes)), (a_this_one, .inl (k_this_one, 40, .inl (upd r_this_one_L26 x6.toNatClampNeg (-0))))] H := hP
                    have hD : va_D A [(a_this, oX8 a_this_bytes a_this_keys a_this_reg a_this_card a_this_filled a_this_taken a_this_line a_this_one a_this_two o_this), (a_this_bytes, .inl (k_this_bytes, 2048, .inl r_this_bytes)), (a_this_one, .inl (k_this_one, 40, .inl (upd r_this_one_L26 x6.toNatClampNeg (-0))))] := hD
                    refine lv_iinc (v := (x6 + (1 : Int32))) (lv' := [(6, .int (x6 + (1 : Int32))), (5, .int 1), (7, .int 0), (4, .int (f_X8_half r_this_bytes p2 p3 0)), (0, .ref a_this), (1, .ref a_this_one), (2, .int p2), (3, .int p3)]) hx hb dX8_unpack_104 hl (k := 2) rfl rfl (by decide) rfl (fun ls hl => ?_)
                    refine lv_goto (tgt := 26) hx hb dX8_unpack_107 (by decide) ?_
                    exact ih (upd r_this_one_L26 x6.toNatClampNeg (-0)) (x6 + (1 : Int32)) true _ _ _ (by first | exact q_up hm c_3 | exact q_up hm hv | exact q_up hm c_5 | exact q_up hm c_6 | exact q_up hm c_7 | exact q_up hm c_11 | exact q_up hm c_12) (by first | exact q_upnn hv c_3 | exact q_upnn hv hv | exact q_upnn hv c_5 | exact q_upnn hv c_6 | exact q_upnn hv c_7 | exact q_upnn hv c_11 | exact q_upnn hv c_12) hP hD hS (lv_sub hl [0, 1, 3, 4, 5, 6, 7] rfl) hF hs
          · skip
            rw [if_neg c_6] at hF
            rw [if_neg c_6] at hs
            refine lv_aload_n hx hb dX8_unpack_43 rfl (lv_at hl 3 rfl) ?_
            refine lv_iload_n hx hb dX8_unpack_44 rfl (lv_at hl 5 rfl) ?_
            refine lv_iload_n hx hb dX8_unpack_45 rfl (lv_at hl 6 rfl) ?_
            refine lv_iload hx hb dX8_unpack_46 (lv_at hl 0 rfl) ?_
            refine lv_iconst (v := 1) hx hb dX8_unpack_48 (by decide) ?_
            refine lv_iadd hx hb dX8_unpack_49 ?_
            obtain ⟨hi_13, hs⟩ := hs
            refine q_Vi (rest := []) (c_X8_half l D a_this a_this_bytes a_this_keys a_this_reg a_this_card a_this_filled a_this_taken a_this_line a_this_one a_this_two k_this_bytes o_this r_this_bytes p2 p3 (x6 + (1 : Int32)) hi_13) cv_X8_half hx hb hml hown ht hN hK hA hP hD hS hl.1 (km_X8_203) ⟨Nat.le_of_ble_eq_true rfl, Nat.le_of_ble_eq_true rfl⟩ rfl rfl [0, 1] (by decide) rfl [0] rfl (fun _ => rfl) (ci := 8) rfl rfl rfl rfl rfl (Nat.le_of_ble_eq_true rfl) dX8_unpack_50 ⟨Nat.zero_le _, Nat.zero_le _⟩ (fun r u H locs hw hP hD hS => ?_)
            obtain ⟨rfl, rfl⟩ := hw
            have hP : va_P D vwCl [(a_this, oX8 a_this_bytes a_this_keys a_this_reg a_this_card a_this_filled a_this_taken a_this_line a_this_one a_this_two o_this), (a_this_bytes, .inl (k_this_bytes, 2048, .inl r_this_bytes)), (a_this_one, .inl (k_this_one, 40, .inl r_this_one_L26))] H := hP
            have hD : va_D A [(a_this, oX8 a_this_bytes a_this_keys a_this_reg a_this_card a_this_filled a_this_taken a_this_line a_this_one a_this_two o_this), (a_this_bytes, .inl (k_this_bytes, 2048, .inl r_this_bytes)), (a_this_one, .inl (k_this_one, 40, .inl r_this_one_L26))] := hD
            refine lv_goto (tgt := 57) hx hb dX8_unpack_53 (by decide) ?_
            refine lv_istore (lv' := [(7, .int (f_X8_half r_this_bytes p2 p3 (x6 + (1 : Int32)))), (6, .int x6), (5, .int (bI x5)), (4, .int (f_X8_half r_this_bytes p2 p3 0)), (0, .ref a_this), (1, .ref a_this_one), (2, .int p2), (3, .int p3)]) hx hb dX8_unpack_57 hl (by decide) rfl (fun ls hl => ?_)
            refine lv_iload hx hb dX8_unpack_59 (lv_at hl 2 rfl) ?_
            refine lv_if_eq (tgt := 75) hx hb dX8_unpack_61 (by decide) (fun c_15 => ?_) (fun c_15 => ?_)
            · have c_15 : ¬ x5 = true := by rw [(bI_eq0 _).mp c_15]; decide
              rw [if_neg c_15] at hF
              rw [if_neg c_15] at hs
              refine lv_iconst (v := 0) hx hb dX8_unpack_75 (by decide) ?_
              refine lv_istore (lv' := [(5, .int 0), (7, .int (f_X8_half r_this_bytes p2 p3 (x6 + (1 : Int32)))), (6, .int x6), (4, .int (f_X8_half r_this_bytes p2 p3 0)), (0, .ref a_this), (1, .ref a_this_one), (2, .int p2), (3, .int p3)]) hx hb dX8_unpack_76 hl (by decide) rfl (fun ls hl => ?_)
              refine lv_aload_n hx hb dX8_unpack_78 rfl (lv_at hl 5 rfl) ?_
              refine lv_iload hx hb dX8_unpack_79 (lv_at hl 2 rfl) ?_
              refine lv_iload hx hb dX8_unpack_81 (lv_at hl 3 rfl) ?_
              refine lv_bipush (v := 11) hx hb dX8_unpack_83 (by decide) ?_
              refine lv_icmp_eq (tgt := 95) hx hb dX8_unpack_85 (by decide) (fun c_16 => ?_) (fun c_16 => ?_)
              · skip
                rw [if_pos c_16] at hF
                rw [if_pos c_16] at hs
                refine lv_iload hx hb dX8_unpack_95 (lv_at hl 1 rfl) ?_
                refine lv_ineg hx hb dX8_unpack_97 ?_
                refine lv_goto (tgt := 103) hx hb dX8_unpack_98 (by decide) ?_
                refine va_iast hx hb hK hP hD hS 2 1 rfl rfl (q_in hv c_5 (by decide)) dX8_unpack_103 (fun H locs hP hD hS => ?_)
                have hP : va_P D vwCl [(a_this, oX8 a_this_bytes a_this_keys a_this_reg a_this_card a_this_filled a_this_taken a_this_line a_this_one a_this_two o_this), (a_this_bytes, .inl (k_this_bytes, 2048, .inl r_this_bytes)), (a_this_one, .inl (k_this_one, 40, .inl (upd r_this_one_L26 x6.toNatClampNeg (-(f_X8_half r_this_bytes p2 p3 (x6 + (1 : Int32)))))))] H := hP
                have hD : va_D A [(a_this, oX8 a_this_bytes a_this_keys a_this_reg a_this_card a_this_filled a_this_taken a_this_line a_this_one a_this_two o_this), (a_this_bytes, .inl (k_this_bytes, 2048, .inl r_this_bytes)), (a_this_one, .inl (k_this_one, 40, .inl (upd r_this_one_L26 x6.toNatClampNeg (-(f_X8_half r_this_bytes p2 p3 (x6 + (1 : Int32)))))))] := hD
                refine lv_iinc (v := (x6 + (1 : Int32))) (lv' := [(6, .int (x6 + (1 : Int32))), (5, .int 0), (7, .int (f_X8_half r_this_bytes p2 p3 (x6 + (1 : Int32)))), (4, .int (f_X8_half r_this_bytes p2 p3 0)), (0, .ref a_this), (1, .ref a_this_one), (2, .int p2), (3, .int p3)]) hx hb dX8_unpack_104 hl (k := 2) rfl rfl (by decide) rfl (fun ls hl => ?_)
                refine lv_goto (tgt := 26) hx hb dX8_unpack_107 (by decide) ?_
                exact ih (upd r_this_one_L26 x6.toNatClampNeg (-(f_X8_half r_this_bytes p2 p3 (x6 + (1 : Int32))))) (x6 + (1 : Int32)) false _ _ _ (by first | exact q_up hm c_3 | exact q_up hm hv | exact q_up hm c_5 | exact q_up hm c_6 | exact q_up hm c_15 | exact q_up hm c_16) (by first | exact q_upnn hv c_3 | exact q_upnn hv hv | exact q_upnn hv c_5 | exact q_upnn hv c_6 | exact q_upnn hv c_15 | exact q_upnn hv c_16) hP hD hS (lv_sub hl [0, 1, 3, 4, 5, 6, 7] rfl) hF hs
              · skip
                rw [if_neg c_16] at hF
                rw [if_neg c_16] at hs
                refine lv_iload hx hb dX8_unpack_88 (lv_at hl 3 rfl) ?_
                refine lv_bipush (v := 13) hx hb dX8_unpack_90 (by decide) ?_
                refine lv_icmp_ne (tgt := 101) hx hb dX8_unpack_92 (by decide) (fun c_17 => ?_) (fun c_17 => ?_)
                · skip
                  rw [if_neg c_17] at hF
                  rw [if_neg c_17] at hs
                  refine lv_iload hx hb dX8_unpack_101 (lv_at hl 1 rfl) ?_
                  refine va_iast hx hb hK hP hD hS 2 1 rfl rfl (q_in hv c_5 (by decide)) dX8_unpack_103 (fun H locs hP hD hS => ?_)
                  have hP : va_P D vwCl [(a_this, oX8 a_this_bytes a_this_keys a_this_reg a_this_card a_this_filled a_this_taken a_this_line a_this_one a_this_two o_this), (a_this_bytes, .inl (k_this_bytes, 2048, .inl r_this_bytes)), (a_this_one, .inl (k_this_one, 40, .inl (upd r_this_one_L26 x6.toNatClampNeg (f_X8_half r_this_bytes p2 p3 (x6 + (1 : Int32))))))] H := hP
                  have hD : va_D A [(a_this, oX8 a_this_bytes a_this_keys a_this_reg a_this_card a_this_filled a_this_taken a_this_line a_this_one a_this_two o_this), (a_this_bytes, .inl (k_this_bytes, 2048, .inl r_this_bytes)), (a_this_one, .inl (k_this_one, 40, .inl (upd r_this_one_L26 x6.toNatClampNeg (f_X8_half r_this_bytes p2 p3 (x6 + (1 : Int32))))))] := hD
                  refine lv_iinc (v := (x6 + (1 : Int32))) (lv' := [(6, .int (x6 + (1 : Int32))), (5, .int 0), (7, .int (f_X8_half r_this_bytes p2 p3 (x6 + (1 : Int32)))), (4, .int (f_X8_half r_this_bytes p2 p3 0)), (0, .ref a_this), (1, .ref a_this_one), (2, .int p2), (3, .int p3)]) hx hb dX8_unpack_104 hl (k := 2) rfl rfl (by decide) rfl (fun ls hl => ?_)
                  refine lv_goto (tgt := 26) hx hb dX8_unpack_107 (by decide) ?_
                  exact ih (upd r_this_one_L26 x6.toNatClampNeg (f_X8_half r_this_bytes p2 p3 (x6 + (1 : Int32)))) (x6 + (1 : Int32)) false _ _ _ (by first | exact q_up hm c_3 | exact q_up hm hv | exact q_up hm c_5 | exact q_up hm c_6 | exact q_up hm c_15 | exact q_up hm c_16 | exact q_up hm c_17) (by first | exact q_upnn hv c_3 | exact q_upnn hv hv | exact q_upnn hv c_5 | exact q_upnn hv c_6 | exact q_upnn hv c_15 | exact q_upnn hv c_16 | exact q_upnn hv c_17) hP hD hS (lv_sub hl [0, 1, 3, 4, 5, 6, 7] rfl) hF hs
                · skip
                  rw [if_pos c_17] at hF
                  rw [if_pos c_17] at hs
                  refine lv_iload hx hb dX8_unpack_95 (lv_at hl 1 rfl) ?_
                  refine lv_ineg hx hb dX8_unpack_97 ?_
                  refine lv_goto (tgt := 103) hx hb dX8_unpack_98 (by decide) ?_
                  refine va_iast hx hb hK hP hD hS 2 1 rfl rfl (q_in hv c_5 (by decide)) dX8_unpack_103 (fun H locs hP hD hS => ?_)
                  have hP : va_P D vwCl [(a_this, oX8 a_this_bytes a_this_keys a_this_reg a_this_card a_this_filled a_this_taken a_this_line a_this_one a_this_two o_this), (a_this_bytes, .inl (k_this_bytes, 2048, .inl r_this_bytes)), (a_this_one, .inl (k_this_one, 40, .inl (upd r_this_one_L26 x6.toNatClampNeg (-(f_X8_half r_this_bytes p2 p3 (x6 + (1 : Int32)))))))] H := hP
                  have hD : va_D A [(a_this, oX8 a_this_bytes a_this_keys a_this_reg a_this_card a_this_filled a_this_taken a_this_line a_this_one a_this_two o_this), (a_this_bytes, .inl (k_this_bytes, 2048, .inl r_this_bytes)), (a_this_one, .inl (k_this_one, 40, .inl (upd r_this_one_L26 x6.toNatClampNeg (-(f_X8_half r_this_bytes p2 p3 (x6 + (1 : Int32)))))))] := hD
                  refine lv_iinc (v := (x6 + (1 : Int32))) (lv' := [(6, .int (x6 + (1 : Int32))), (5, .int 0), (7, .int (f_X8_half r_this_bytes p2 p3 (x6 + (1 : Int32)))), (4, .int (f_X8_half r_this_bytes p2 p3 0)), (0, .ref a_this), (1, .ref a_this_one), (2, .int p2), (3, .int p3)]) hx hb dX8_unpack_104 hl (k := 2) rfl rfl (by decide) rfl (fun ls hl => ?_)
                  refine lv_goto (tgt := 26) hx hb dX8_unpack_107 (by decide) ?_
                  exact ih (upd r_this_one_L26 x6.toNatClampNeg (-(f_X8_half r_this_bytes p2 p3 (x6 + (1 : Int32))))) (x6 + (1 : Int32)) false _ _ _ (by first | exact q_up hm c_3 | exact q_up hm hv | exact q_up hm c_5 | exact q_up hm c_6 | exact q_up hm c_15 | exact q_up hm c_16 | exact q_up hm c_17) (by first | exact q_upnn hv c_3 | exact q_upnn hv hv | exact q_upnn hv c_5 | exact q_upnn hv c_6 | exact q_upnn hv c_15 | exact q_upnn hv c_16 | exact q_upnn hv c_17) hP hD hS (lv_sub hl [0, 1, 3, 4, 5, 6, 7] rfl) hF hs
            · have c_15 := (bI_ne0 _).mp c_15
              rw [if_pos c_15] at hF
              rw [if_pos c_15] at hs
              refine lv_iload hx hb dX8_unpack_64 (lv_at hl 0 rfl) ?_
              refine lv_bipush (v := 10) hx hb dX8_unpack_66 (by decide) ?_
              refine lv_icmp_ge (tgt := 75) hx hb dX8_unpack_68 (by decide) (fun c_18 => ?_) (fun c_18 => ?_)
              · skip
                rw [if_pos c_18] at hF
                rw [if_pos c_18] at hs
                refine lv_iconst (v := 0) hx hb dX8_unpack_75 (by decide) ?_
                refine lv_istore (lv' := [(5, .int 0), (7, .int (f_X8_half r_this_bytes p2 p3 (x6 + (1 : Int32)))), (6, .int x6), (4, .int (f_X8_half r_this_bytes p2 p3 0)), (0, .ref a_this), (1, .ref a_this_one), (2, .int p2), (3, .int p3)]) hx hb dX8_unpack_76 hl (by decide) rfl (fun ls hl => ?_)
                refine lv_aload_n hx hb dX8_unpack_78 rfl (lv_at hl 5 rfl) ?_
                refine lv_iload hx hb dX8_unpack_79 (lv_at hl 2 rfl) ?_
                refine lv_iload hx hb dX8_unpack_81 (lv_at hl 3 rfl) ?_
                refine lv_bipush (v := 11) hx hb dX8_unpack_83 (by decide) ?_
                refine lv_icmp_eq (tgt := 95) hx hb dX8_unpack_85 (by decide) (fun c_19 => ?_) (fun c_19 => ?_)
                · skip
                  rw [if_pos c_19] at hF
                  rw [if_pos c_19] at hs
                  refine lv_iload hx hb dX8_unpack_95 (lv_at hl 1 rfl) ?_
                  refine lv_ineg hx hb dX8_unpack_97 ?_
                  refine lv_goto (tgt := 103) hx hb dX8_unpack_98 (by decide) ?_
                  refine va_iast hx hb hK hP hD hS 2 1 rfl rfl (q_in hv c_5 (by decide)) dX8_unpack_103 (fun H locs hP hD hS => ?_)
                  have hP : va_P D vwCl [(a_this, oX8 a_this_bytes a_this_keys a_this_reg a_this_card a_this_filled a_this_taken a_this_line a_this_one a_this_two o_this), (a_this_bytes, .inl (k_this_bytes, 2048, .inl r_this_bytes)), (a_this_one, .inl (k_this_one, 40, .inl (upd r_this_one_L26 x6.toNatClampNeg (-(f_X8_half r_this_bytes p2 p3 (x6 + (1 : Int32)))))))] H := hP
                  have hD : va_D A [(a_this, oX8 a_this_bytes a_this_keys a_this_reg a_this_card a_this_filled a_this_taken a_this_line a_this_one a_this_two o_this), (a_this_bytes, .inl (k_this_bytes, 2048, .inl r_this_bytes)), (a_this_one, .inl (k_this_one, 40, .inl (upd r_this_one_L26 x6.toNatClampNeg (-(f_X8_half r_this_bytes p2 p3 (x6 + (1 : Int32)))))))] := hD
                  refine lv_iinc (v := (x6 + (1 : Int32))) (lv' := [(6, .int (x6 + (1 : Int32))), (5, .int 0), (7, .int (f_X8_half r_this_bytes p2 p3 (x6 + (1 : Int32)))), (4, .int (f_X8_half r_this_bytes p2 p3 0)), (0, .ref a_this), (1, .ref a_this_one), (2, .int p2), (3, .int p3)]) hx hb dX8_unpack_104 hl (k := 2) rfl rfl (by decide) rfl (fun ls hl => ?_)
                  refine lv_goto (tgt := 26) hx hb dX8_unpack_107 (by decide) ?_
                  exact ih (upd r_this_one_L26 x6.toNatClampNeg (-(f_X8_half r_this_bytes p2 p3 (x6 + (1 : Int32))))) (x6 + (1 : Int32)) false _ _ _ (by first | exact q_up hm c_3 | exact q_up hm hv | exact q_up hm c_5 | exact q_up hm c_6 | exact q_up hm c_15 | exact q_up hm c_18 | exact q_up hm c_19) (by first | exact q_upnn hv c_3 | exact q_upnn hv hv | exact q_upnn hv c_5 | exact q_upnn hv c_6 | exact q_upnn hv c_15 | exact q_upnn hv c_18 | exact q_upnn hv c_19) hP hD hS (lv_sub hl [0, 1, 3, 4, 5, 6, 7] rfl) hF hs
                · skip
                  rw [if_neg c_19] at hF
                  rw [if_neg c_19] at hs
                  refine lv_iload hx hb dX8_unpack_88 (lv_at hl 3 rfl) ?_
                  refine lv_bipush (v := 13) hx hb dX8_unpack_90 (by decide) ?_
                  refine lv_icmp_ne (tgt := 101) hx hb dX8_unpack_92 (by decide) (fun c_20 => ?_) (fun c_20 => ?_)
                  · skip
                    rw [if_neg c_20] at hF
                    rw [if_neg c_20] at hs
                    refine lv_iload hx hb dX8_unpack_101 (lv_at hl 1 rfl) ?_
                    refine va_iast hx hb hK hP hD hS 2 1 rfl rfl (q_in hv c_5 (by decide)) dX8_unpack_103 (fun H locs hP hD hS => ?_)
                    have hP : va_P D vwCl [(a_this, oX8 a_this_bytes a_this_keys a_this_reg a_this_card a_this_filled a_this_taken a_this_line a_this_one a_this_two o_this), (a_this_bytes, .inl (k_this_bytes, 2048, .inl r_this_bytes)), (a_this_one, .inl (k_this_one, 40, .inl (upd r_this_one_L26 x6.toNatClampNeg (f_X8_half r_this_bytes p2 p3 (x6 + (1 : Int32))))))] H := hP
                    have hD : va_D A [(a_this, oX8 a_this_bytes a_this_keys a_this_reg a_this_card a_this_filled a_this_taken a_this_line a_this_one a_this_two o_this), (a_this_bytes, .inl (k_this_bytes, 2048, .inl r_this_bytes)), (a_this_one, .inl (k_this_one, 40, .inl (upd r_this_one_L26 x6.toNatClampNeg (f_X8_half r_this_bytes p2 p3 (x6 + (1 : Int32))))))] := hD
                    refine lv_iinc (v := (x6 + (1 : Int32))) (lv' := [(6, .int (x6 + (1 : Int32))), (5, .int 0), (7, .int (f_X8_half r_this_bytes p2 p3 (x6 + (1 : Int32)))), (4, .int (f_X8_half r_this_bytes p2 p3 0)), (0, .ref a_this), (1, .ref a_this_one), (2, .int p2), (3, .int p3)]) hx hb dX8_unpack_104 hl (k := 2) rfl rfl (by decide) rfl (fun ls hl => ?_)
                    refine lv_goto (tgt := 26) hx hb dX8_unpack_107 (by decide) ?_
                    exact ih (upd r_this_one_L26 x6.toNatClampNeg (f_X8_half r_this_bytes p2 p3 (x6 + (1 : Int32)))) (x6 + (1 : Int32)) false _ _ _ (by first | exact q_up hm c_3 | exact q_up hm hv | exact q_up hm c_5 | exact q_up hm c_6 | exact q_up hm c_15 | exact q_up hm c_18 | exact q_up hm c_19 | exact q_up hm c_20) (by first | exact q_upnn hv c_3 | exact q_upnn hv hv | exact q_upnn hv c_5 | exact q_upnn hv c_6 | exact q_upnn hv c_15 | exact q_upnn hv c_18 | exact q_upnn hv c_19 | exact q_upnn hv c_20) hP hD hS (lv_sub hl [0, 1, 3, 4, 5, 6, 7] rfl) hF hs
                  · skip
                    rw [if_pos c_20] at hF
                    rw [if_pos c_20] at hs
                    refine lv_iload hx hb dX8_unpack_95 (lv_at hl 1 rfl) ?_
                    refine lv_ineg hx hb dX8_unpack_97 ?_
                    refine lv_goto (tgt := 103) hx hb dX8_unpack_98 (by decide) ?_
                    refine va_iast hx hb hK hP hD hS 2 1 rfl rfl (q_in hv c_5 (by decide)) dX8_unpack_103 (fun H locs hP hD hS => ?_)
                    have hP : va_P D vwCl [(a_this, oX8 a_this_bytes a_this_keys a_this_reg a_this_card a_this_filled a_this_taken a_this_line a_this_one a_this_two o_this), (a_this_bytes, .inl (k_this_bytes, 2048, .inl r_this_bytes)), (a_this_one, .inl (k_this_one, 40, .inl (upd r_this_one_L26 x6.toNatClampNeg (-(f_X8_half r_this_bytes p2 p3 (x6 + (1 : Int32)))))))] H := hP
                    have hD : va_D A [(a_this, oX8 a_this_bytes a_this_keys a_this_reg a_this_card a_this_filled a_this_taken a_this_line a_this_one a_this_two o_this), (a_this_bytes, .inl (k_this_bytes, 2048, .inl r_this_bytes)), (a_this_one, .inl (k_this_one, 40, .inl (upd r_this_one_L26 x6.toNatClampNeg (-(f_X8_half r_this_bytes p2 p3 (x6 + (1 : Int32)))))))] := hD
                    refine lv_iinc (v := (x6 + (1 : Int32))) (lv' := [(6, .int (x6 + (1 : Int32))), (5, .int 0), (7, .int (f_X8_half r_this_bytes p2 p3 (x6 + (1 : Int32)))), (4, .int (f_X8_half r_this_bytes p2 p3 0)), (0, .ref a_this), (1, .ref a_this_one), (2, .int p2), (3, .int p3)]) hx hb dX8_unpack_104 hl (k := 2) rfl rfl (by decide) rfl (fun ls hl => ?_)
                    refine lv_goto (tgt := 26) hx hb dX8_unpack_107 (by decide) ?_
                    exact ih (upd r_this_one_L26 x6.toNatClampNeg (-(f_X8_half r_this_bytes p2 p3 (x6 + (1 : Int32))))) (x6 + (1 : Int32)) false _ _ _ (by first | exact q_up hm c_3 | exact q_up hm hv | exact q_up hm c_5 | exact q_up hm c_6 | exact q_up hm c_15 | exact q_up hm c_18 | exact q_up hm c_19 | exact q_up hm c_20) (by first | exact q_upnn hv c_3 | exact q_upnn hv hv | exact q_upnn hv c_5 | exact q_upnn hv c_6 | exact q_upnn hv c_15 | exact q_upnn hv c_18 | exact q_upnn hv c_19 | exact q_upnn hv c_20) hP hD hS (lv_sub hl [0, 1, 3, 4, 5, 6, 7] rfl) hF hs
              · skip
                rw [if_neg c_18] at hF
                rw [if_neg c_18] at hs
                refine lv_iconst (v := 1) hx hb dX8_unpack_71 (by decide) ?_
                refine lv_goto (tgt := 76) hx hb dX8_unpack_72 (by decide) ?_
                refine lv_istore (lv' := [(5, .int 1), (7, .int (f_X8_half r_this_bytes p2 p3 (x6 + (1 : Int32)))), (6, .int x6), (4, .int (f_X8_half r_this_bytes p2 p3 0)), (0, .ref a_this), (1, .ref a_this_one), (2, .int p2), (3, .int p3)]) hx hb dX8_unpack_76 hl (by decide) rfl (fun ls hl => ?_)
                refine lv_aload_n hx hb dX8_unpack_78 rfl (lv_at hl 5 rfl) ?_
                refine lv_iload hx hb dX8_unpack_79 (lv_at hl 2 rfl) ?_
                refine lv_iload hx hb dX8_unpack_81 (lv_at hl 3 rfl) ?_
                refine lv_bipush (v := 11) hx hb dX8_unpack_83 (by decide) ?_
                refine lv_icmp_eq (tgt := 95) hx hb dX8_unpack_85 (by decide) (fun c_21 => ?_) (fun c_21 => ?_)
                · skip
                  rw [if_pos c_21] at hF
                  rw [if_pos c_21] at hs
                  refine lv_iload hx hb dX8_unpack_95 (lv_at hl 1 rfl) ?_
                  refine lv_ineg hx hb dX8_unpack_97 ?_
                  refine lv_goto (tgt := 103) hx hb dX8_unpack_98 (by decide) ?_
                  refine va_iast hx hb hK hP hD hS 2 1 rfl rfl (q_in hv c_5 (by decide)) dX8_unpack_103 (fun H locs hP hD hS => ?_)
                  have hP : va_P D vwCl [(a_this, oX8 a_this_bytes a_this_keys a_this_reg a_this_card a_this_filled a_this_taken a_this_line a_this_one a_this_two o_this), (a_this_bytes, .inl (k_this_bytes, 2048, .inl r_this_bytes)), (a_this_one, .inl (k_this_one, 40, .inl (upd r_this_one_L26 x6.toNatClampNeg (-(f_X8_half r_this_bytes p2 p3 (x6 + (1 : Int32)))))))] H := hP
                  have hD : va_D A [(a_this, oX8 a_this_bytes a_this_keys a_this_reg a_this_card a_this_filled a_this_taken a_this_line a_this_one a_this_two o_this), (a_this_bytes, .inl (k_this_bytes, 2048, .inl r_this_bytes)), (a_this_one, .inl (k_this_one, 40, .inl (upd r_this_one_L26 x6.toNatClampNeg (-(f_X8_half r_this_bytes p2 p3 (x6 + (1 : Int32)))))))] := hD
                  refine lv_iinc (v := (x6 + (1 : Int32))) (lv' := [(6, .int (x6 + (1 : Int32))), (5, .int 1), (7, .int (f_X8_half r_this_bytes p2 p3 (x6 + (1 : Int32)))), (4, .int (f_X8_half r_this_bytes p2 p3 0)), (0, .ref a_this), (1, .ref a_this_one), (2, .int p2), (3, .int p3)]) hx hb dX8_unpack_104 hl (k := 2) rfl rfl (by decide) rfl (fun ls hl => ?_)
                  refine lv_goto (tgt := 26) hx hb dX8_unpack_107 (by decide) ?_
                  exact ih (upd r_this_one_L26 x6.toNatClampNeg (-(f_X8_half r_this_bytes p2 p3 (x6 + (1 : Int32))))) (x6 + (1 : Int32)) true _ _ _ (by first | exact q_up hm c_3 | exact q_up hm hv | exact q_up hm c_5 | exact q_up hm c_6 | exact q_up hm c_15 | exact q_up hm c_18 | exact q_up hm c_21) (by first | exact q_upnn hv c_3 | exact q_upnn hv hv | exact q_upnn hv c_5 | exact q_upnn hv c_6 | exact q_upnn hv c_15 | exact q_upnn hv c_18 | exact q_upnn hv c_21) hP hD hS (lv_sub hl [0, 1, 3, 4, 5, 6, 7] rfl) hF hs
                · skip
                  rw [if_neg c_21] at hF
                  rw [if_neg c_21] at hs
                  refine lv_iload hx hb dX8_unpack_88 (lv_at hl 3 rfl) ?_
                  refine lv_bipush (v := 13) hx hb dX8_unpack_90 (by decide) ?_
                  refine lv_icmp_ne (tgt := 101) hx hb dX8_unpack_92 (by decide) (fun c_22 => ?_) (fun c_22 => ?_)
                  · skip
                    rw [if_neg c_22] at hF
                    rw [if_neg c_22] at hs
                    refine lv_iload hx hb dX8_unpack_101 (lv_at hl 1 rfl) ?_
                    refine va_iast hx hb hK hP hD hS 2 1 rfl rfl (q_in hv c_5 (by decide)) dX8_unpack_103 (fun H locs hP hD hS => ?_)
                    have hP : va_P D vwCl [(a_this, oX8 a_this_bytes a_this_keys a_this_reg a_this_card a_this_filled a_this_taken a_this_line a_this_one a_this_two o_this), (a_this_bytes, .inl (k_this_bytes, 2048, .inl r_this_bytes)), (a_this_one, .inl (k_this_one, 40, .inl (upd r_this_one_L26 x6.toNatClampNeg (f_X8_half r_this_bytes p2 p3 (x6 + (1 : Int32))))))] H := hP
                    have hD : va_D A [(a_this, oX8 a_this_bytes a_this_keys a_this_reg a_this_card a_this_filled a_this_taken a_this_line a_this_one a_this_two o_this), (a_this_bytes, .inl (k_this_bytes, 2048, .inl r_this_bytes)), (a_this_one, .inl (k_this_one, 40, .inl (upd r_this_one_L26 x6.toNatClampNeg (f_X8_half r_this_bytes p2 p3 (x6 + (1 : Int32))))))] := hD
                    refine lv_iinc (v := (x6 + (1 : Int32))) (lv' := [(6, .int (x6 + (1 : Int32))), (5, .int 1), (7, .int (f_X8_half r_this_bytes p2 p3 (x6 + (1 : Int32)))), (4, .int (f_X8_half r_this_bytes p2 p3 0)), (0, .ref a_this), (1, .ref a_this_one), (2, .int p2), (3, .int p3)]) hx hb dX8_unpack_104 hl (k := 2) rfl rfl (by decide) rfl (fun ls hl => ?_)
                    refine lv_goto (tgt := 26) hx hb dX8_unpack_107 (by decide) ?_
                    exact ih (upd r_this_one_L26 x6.toNatClampNeg (f_X8_half r_this_bytes p2 p3 (x6 + (1 : Int32)))) (x6 + (1 : Int32)) true _ _ _ (by first | exact q_up hm c_3 | exact q_up hm hv | exact q_up hm c_5 | exact q_up hm c_6 | exact q_up hm c_15 | exact q_up hm c_18 | exact q_up hm c_21 | exact q_up hm c_22) (by first | exact q_upnn hv c_3 | exact q_upnn hv hv | exact q_upnn hv c_5 | exact q_upnn hv c_6 | exact q_upnn hv c_15 | exact q_upnn hv c_18 | exact q_upnn hv c_21 | exact q_upnn hv c_22) hP hD hS (lv_sub hl [0, 1, 3, 4, 5, 6, 7] rfl) hF hs
                  · skip
                    rw [if_pos c_22] at hF
                    rw [if_pos c_22] at hs
                    refine lv_iload hx hb dX8_unpack_95 (lv_at hl 1 rfl) ?_
                    refine lv_ineg hx hb dX8_unpack_97 ?_
                    refine lv_goto (tgt := 103) hx hb dX8_unpack_98 (by decide) ?_
                    refine va_iast hx hb hK hP hD hS 2 1 rfl rfl (q_in hv c_5 (by decide)) dX8_unpack_103 (fun H locs hP hD hS => ?_)
                    have hP : va_P D vwCl [(a_this, oX8 a_this_bytes a_this_keys a_this_reg a_this_card a_this_filled a_this_taken a_this_line a_this_one a_this_two o_this), (a_this_bytes, .inl (k_this_bytes, 2048, .inl r_this_bytes)), (a_this_one, .inl (k_this_one, 40, .inl (upd r_this_one_L26 x6.toNatClampNeg (-(f_X8_half r_this_bytes p2 p3 (x6 + (1 : Int32)))))))] H := hP
                    have hD : va_D A [(a_this, oX8 a_this_bytes a_this_keys a_this_reg a_this_card a_this_filled a_this_taken a_this_line a_this_one a_this_two o_this), (a_this_bytes, .inl (k_this_bytes, 2048, .inl r_this_bytes)), (a_this_one, .inl (k_this_one, 40, .inl (upd r_this_one_L26 x6.toNatClampNeg (-(f_X8_half r_this_bytes p2 p3 (x6 + (1 : Int32)))))))] := hD
                    refine lv_iinc (v := (x6 + (1 : Int32))) (lv' := [(6, .int (x6 + (1 : Int32))), (5, .int 1), (7, .int (f_X8_half r_this_bytes p2 p3 (x6 + (1 : Int32)))), (4, .int (f_X8_half r_this_bytes p2 p3 0)), (0, .ref a_this), (1, .ref a_this_one), (2, .int p2), (3, .int p3)]) hx hb dX8_unpack_104 hl (k := 2) rfl rfl (by decide) rfl (fun ls hl => ?_)
                    refine lv_goto (tgt := 26) hx hb dX8_unpack_107 (by decide) ?_
                    exact ih (upd r_this_one_L26 x6.toNatClampNeg (-(f_X8_half r_this_bytes p2 p3 (x6 + (1 : Int32))))) (x6 + (1 : Int32)) true _ _ _ (by first | exact q_up hm c_3 | exact q_up hm hv | exact q_up hm c_5 | exact q_up hm c_6 | exact q_up hm c_15 | exact q_up hm c_18 | exact q_up hm c_21 | exact q_up hm c_22) (by first | exact q_upnn hv c_3 | exact q_upnn hv hv | exact q_upnn hv c_5 | exact q_upnn hv c_6 | exact q_upnn hv c_15 | exact q_upnn hv c_18 | exact q_upnn hv c_21 | exact q_upnn hv c_22) hP hD hS (lv_sub hl [0, 1, 3, 4, 5, 6, 7] rfl) hF hs
    exact L26 (((40 : Int32).toInt - (0 : Int32).toInt).toNat + 1) r_this_one 0 false _ _ _ (Nat.lt_succ_self _) (by decide) hP hD hS (lv_sub hl [0, 1, 2, 3, 4, 5, 6] rfl) hF hs
  · skip
    rw [if_neg c_3] at hF
    rw [if_neg c_3] at hs
    refine lv_iconst (v := 1) hx hb dX8_unpack_16 (by decide) ?_
    refine lv_goto (tgt := 21) hx hb dX8_unpack_17 (by decide) ?_
    refine lv_istore (lv' := [(5, .int 1), (4, .int (f_X8_half r_this_bytes p2 p3 0)), (0, .ref a_this), (1, .ref a_this_one), (2, .int p2), (3, .int p3)]) hx hb dX8_unpack_21 hl (by decide) rfl (fun ls hl => ?_)
    refine lv_iconst (v := 0) hx hb dX8_unpack_23 (by decide) ?_
    refine lv_istore (lv' := [(6, .int 0), (5, .int 1), (4, .int (f_X8_half r_this_bytes p2 p3 0)), (0, .ref a_this), (1, .ref a_this_one), (2, .int p2), (3, .int p3)]) hx hb dX8_unpack_24 hl (by decide) rfl (fun ls hl => ?_)
    have L26 : ∀ (fuel : Nat) (r_this_one_L26 : Nat → Int32) (x6 : Int32) (x5 : Bool) (H : Heap) (locs : List Loc) (ls : Array Slot), ((40 : Int32).toInt - (x6 : Int32).toInt).toNat < fuel → ¬ x6 < 0 → va_P D vwCl [(a_this, oX8 a_this_bytes a_this_keys a_this_reg a_this_card a_this_filled a_this_taken a_this_line a_this_one a_this_two o_this), (a_this_bytes, .inl (k_this_bytes, 2048, .inl r_this_bytes)), (a_this_one, .inl (k_this_one, 40, .inl r_this_one_L26))] H → va_D A [(a_this, oX8 a_this_bytes a_this_keys a_this_reg a_this_card a_this_filled a_this_taken a_this_line a_this_one a_this_two o_this), (a_this_bytes, .inl (k_this_bytes, 2048, .inl r_this_bytes)), (a_this_one, .inl (k_this_one, 40, .inl r_this_one_L26))] → va_S A s.heap H locs → lv_has ls 8 [(6, .int x6), (5, .int (bI x5)), (4, .int (f_X8_half r_this_bytes p2 p3 0)), (0, .ref a_this), (1, .ref a_this_one), (2, .int p2), (3, .int p3)] → f_X8_unpackA_L26 r_this_bytes p2 p3 fuel r_this_one_L26 x6 x5 = F → s_X8_unpackA_L26 r_this_bytes p2 p3 fuel r_this_one_L26 x6 x5 → W p l e ({ frames := 1, cells := 0, slots := 0, locals := 24 } : Room) s m ([.ref a_this, .ref a_this_one, .int p2, .int p3] : List Value).toArray below meth c H locs 0 0 Q (F0 m 26 ls []) := by
      intro fuel
      induction fuel with
      | zero => intro r_this_one_L26 x6 x5 H locs ls hm; exact absurd hm (Nat.not_lt_zero _)
      | succ fuel ih =>
        intro r_this_one_L26 x6 x5 H locs ls hm hv hP hD hS hl hF hs
        rw [f_X8_unpackA_L26] at hF
        rw [s_X8_unpackA_L26] at hs
        skip
        refine lv_iload hx hb dX8_unpack_26 (lv_at hl 0 rfl) ?_
        refine lv_bipush (v := 40) hx hb dX8_unpack_28 (by decide) ?_
        refine lv_icmp_ge (tgt := 110) hx hb dX8_unpack_30 (by decide) (fun c_24 => ?_) (fun c_24 => ?_)
        · skip
          rw [if_pos c_24] at hF
          rw [if_pos c_24] at hs
          refine lv_iload hx hb dX8_unpack_110 (lv_at hl 1 rfl) ?_
          exact hQ x5 (x5, r_this_one_L26) _ _ _ _ dX8_unpack_112 ⟨hF.symm, rfl⟩ hP hD hS
        · skip
          rw [if_neg c_24] at hF
          rw [if_neg c_24] at hs
          refine lv_iload hx hb dX8_unpack_33 (lv_at hl 0 rfl) ?_
          refine lv_iconst (v := 2) hx hb dX8_unpack_35 (by decide) ?_
          refine lv_iload_n hx hb dX8_unpack_36 rfl (lv_at hl 6 rfl) ?_
          refine lv_imul hx hb dX8_unpack_37 ?_
          refine lv_iconst (v := 1) hx hb dX8_unpack_38 (by decide) ?_
          refine lv_isub hx hb dX8_unpack_39 ?_
          refine lv_icmp_ge (tgt := 56) hx hb dX8_unpack_40 (by decide) (fun c_25 => ?_) (fun c_25 => ?_)
          · skip
            rw [if_pos c_25] at hF
            rw [if_pos c_25] at hs
            refine lv_iconst (v := 0) hx hb dX8_unpack_56 (by decide) ?_
            refine lv_istore (lv' := [(7, .int 0), (6, .int x6), (5, .int (bI x5)), (4, .int (f_X8_half r_this_bytes p2 p3 0)), (0, .ref a_this), (1, .ref a_this_one), (2, .int p2), (3, .int p3)]) hx hb dX8_unpack_57 hl (by decide) rfl (fun ls hl => ?_)
            refine lv_iload hx hb dX8_unpack_59 (lv_at hl 2 rfl) ?_
            refine lv_if_eq (tgt := 75) hx hb dX8_unpack_61 (by decide) (fun c_26 => ?_) (fun c_26 => ?_)
            · have c_26 : ¬ x5 = true := by rw [(bI_eq0 _).mp c_26]; decide
              rw [if_neg c_26] at hF
              rw [if_neg c_26] at hs
              refine lv_iconst (v := 0) hx hb dX8_unpack_75 (by decide) ?_
              refine lv_istore (lv' := [(5, .int 0), (7, .int 0), (6, .int x6), (4, .int (f_X8_half r_this_bytes p2 p3 0)), (0, .ref a_this), (1, .ref a_this_one), (2, .int p2), (3, .int p3)]) hx hb dX8_unpack_76 hl (by decide) rfl (fun ls hl => ?_)
              refine lv_aload_n hx hb dX8_unpack_78 rfl (lv_at hl 5 rfl) ?_
              refine lv_iload hx hb dX8_unpack_79 (lv_at hl 2 rfl) ?_
              refine lv_iload hx hb dX8_unpack_81 (lv_at hl 3 rfl) ?_
              refine lv_bipush (v := 11) hx hb dX8_unpack_83 (by decide) ?_
              refine lv_icmp_eq (tgt := 95) hx hb dX8_unpack_85 (by decide) (fun c_27 => ?_) (fun c_27 => ?_)
              · skip
                rw [if_pos c_27] at hF
                rw [if_pos c_27] at hs
                refine lv_iload hx hb dX8_unpack_95 (lv_at hl 1 rfl) ?_
                refine lv_ineg hx hb dX8_unpack_97 ?_
                refine lv_goto (tgt := 103) hx hb dX8_unpack_98 (by decide) ?_
                refine va_iast hx hb hK hP hD hS 2 1 rfl rfl (q_in hv c_24 (by decide)) dX8_unpack_103 (fun H locs hP hD hS => ?_)
                have hP : va_P D vwCl [(a_this, oX8 a_this_bytes a_this_keys a_this_reg a_this_card a_this_filled a_this_taken a_this_line a_this_one a_this_two o_this), (a_this_bytes, .inl (k_this_bytes, 2048, .inl r_this_bytes)), (a_this_one, .inl (k_this_one, 40, .inl (upd r_this_one_L26 x6.toNatClampNeg (-0))))] H := hP
                have hD : va_D A [(a_this, oX8 a_this_bytes a_this_keys a_this_reg a_this_card a_this_filled a_this_taken a_this_line a_this_one a_this_two o_this), (a_this_bytes, .inl (k_this_bytes, 2048, .inl r_this_bytes)), (a_this_one, .inl (k_this_one, 40, .inl (upd r_this_one_L26 x6.toNatClampNeg (-0))))] := hD
                refine lv_iinc (v := (x6 + (1 : Int32))) (lv' := [(6, .int (x6 + (1 : Int32))), (5, .int 0), (7, .int 0), (4, .int (f_X8_half r_this_bytes p2 p3 0)), (0, .ref a_this), (1, .ref a_this_one), (2, .int p2), (3, .int p3)]) hx hb dX8_unpack_104 hl (k := 2) rfl rfl (by decide) rfl (fun ls hl => ?_)
                refine lv_goto (tgt := 26) hx hb dX8_unpack_107 (by decide) ?_
                exact ih (upd r_this_one_L26 x6.toNatClampNeg (-0)) (x6 + (1 : Int32)) false _ _ _ (by first | exact q_up hm c_3 | exact q_up hm hv | exact q_up hm c_24 | exact q_up hm c_25 | exact q_up hm c_26 | exact q_up hm c_27) (by first | exact q_upnn hv c_3 | exact q_upnn hv hv | exact q_upnn hv c_24 | exact q_upnn hv c_25 | exact q_upnn hv c_26 | exact q_upnn hv c_27) hP hD hS (lv_sub hl [0, 1, 3, 4, 5, 6, 7] rfl) hF hs
              · skip
                rw [if_neg c_27] at hF
                rw [if_neg c_27] at hs
                refine lv_iload hx hb dX8_unpack_88 (lv_at hl 3 rfl) ?_
                refine lv_bipush (v := 13) hx hb dX8_unpack_90 (by decide) ?_
                refine lv_icmp_ne (tgt := 101) hx hb dX8_unpack_92 (by decide) (fun c_28 => ?_) (fun c_28 => ?_)
                · skip
                  rw [if_neg c_28] at hF
                  rw [if_neg c_28] at hs
                  refine lv_iload hx hb dX8_unpack_101 (lv_at hl 1 rfl) ?_
                  refine va_iast hx hb hK hP hD hS 2 1 rfl rfl (q_in hv c_24 (by decide)) dX8_unpack_103 (fun H locs hP hD hS => ?_)
                  have hP : va_P D vwCl [(a_this, oX8 a_this_bytes a_this_keys a_this_reg a_this_card a_this_filled a_this_taken a_this_line a_this_one a_this_two o_this), (a_this_bytes, .inl (k_this_bytes, 2048, .inl r_this_bytes)), (a_this_one, .inl (k_this_one, 40, .inl (upd r_this_one_L26 x6.toNatClampNeg 0)))] H := hP
                  have hD : va_D A [(a_this, oX8 a_this_bytes a_this_keys a_this_reg a_this_card a_this_filled a_this_taken a_this_line a_this_one a_this_two o_this), (a_this_bytes, .inl (k_this_bytes, 2048, .inl r_this_bytes)), (a_this_one, .inl (k_this_one, 40, .inl (upd r_this_one_L26 x6.toNatClampNeg 0)))] := hD
                  refine lv_iinc (v := (x6 + (1 : Int32))) (lv' := [(6, .int (x6 + (1 : Int32))), (5, .int 0), (7, .int 0), (4, .int (f_X8_half r_this_bytes p2 p3 0)), (0, .ref a_this), (1, .ref a_this_one), (2, .int p2), (3, .int p3)]) hx hb dX8_unpack_104 hl (k := 2) rfl rfl (by decide) rfl (fun ls hl => ?_)
                  refine lv_goto (tgt := 26) hx hb dX8_unpack_107 (by decide) ?_
                  exact ih (upd r_this_one_L26 x6.toNatClampNeg 0) (x6 + (1 : Int32)) false _ _ _ (by first | exact q_up hm c_3 | exact q_up hm hv | exact q_up hm c_24 | exact q_up hm c_25 | exact q_up hm c_26 | exact q_up hm c_27 | exact q_up hm c_28) (by first | exact q_upnn hv c_3 | exact q_upnn hv hv | exact q_upnn hv c_24 | exact q_upnn hv c_25 | exact q_upnn hv c_26 | exact q_upnn hv c_27 | exact q_upnn hv c_28) hP hD hS (lv_sub hl [0, 1, 3, 4, 5, 6, 7] rfl) hF hs
                · skip
                  rw [if_pos c_28] at hF
                  rw [if_pos c_28] at hs
                  refine lv_iload hx hb dX8_unpack_95 (lv_at hl 1 rfl) ?_
                  refine lv_ineg hx hb dX8_unpack_97 ?_
                  refine lv_goto (tgt := 103) hx hb dX8_unpack_98 (by decide) ?_
                  refine va_iast hx hb hK hP hD hS 2 1 rfl rfl (q_in hv c_24 (by decide)) dX8_unpack_103 (fun H locs hP hD hS => ?_)
                  have hP : va_P D vwCl [(a_this, oX8 a_this_bytes a_this_keys a_this_reg a_this_card a_this_filled a_this_taken a_this_line a_this_one a_this_two o_this), (a_this_bytes, .inl (k_this_bytes, 2048, .inl r_this_bytes)), (a_this_one, .inl (k_this_one, 40, .inl (upd r_this_one_L26 x6.toNatClampNeg (-0))))] H := hP
                  have hD : va_D A [(a_this, oX8 a_this_bytes a_this_keys a_this_reg a_this_card a_this_filled a_this_taken a_this_line a_this_one a_this_two o_this), (a_this_bytes, .inl (k_this_bytes, 2048, .inl r_this_bytes)), (a_this_one, .inl (k_this_one, 40, .inl (upd r_this_one_L26 x6.toNatClampNeg (-0))))] := hD
                  refine lv_iinc (v := (x6 + (1 : Int32))) (lv' := [(6, .int (x6 + (1 : Int32))), (5, .int 0), (7, .int 0), (4, .int (f_X8_half r_this_bytes p2 p3 0)), (0, .ref a_this), (1, .ref a_this_one), (2, .int p2), (3, .int p3)]) hx hb dX8_unpack_104 hl (k := 2) rfl rfl (by decide) rfl (fun ls hl => ?_)
                  refine lv_goto (tgt := 26) hx hb dX8_unpack_107 (by decide) ?_
                  exact ih (upd r_this_one_L26 x6.toNatClampNeg (-0)) (x6 + (1 : Int32)) false _ _ _ (by first | exact q_up hm c_3 | exact q_up hm hv | exact q_up hm c_24 | exact q_up hm c_25 | exact q_up hm c_26 | exact q_up hm c_27 | exact q_up hm c_28) (by first | exact q_upnn hv c_3 | exact q_upnn hv hv | exact q_upnn hv c_24 | exact q_upnn hv c_25 | exact q_upnn hv c_26 | exact q_upnn hv c_27 | exact q_upnn hv c_28) hP hD hS (lv_sub hl [0, 1, 3, 4, 5, 6, 7] rfl) hF hs
            · have c_26 := (bI_ne0 _).mp c_26
              rw [if_pos c_26] at hF
              rw [if_pos c_26] at hs
              refine lv_iload hx hb dX8_unpack_64 (lv_at hl 0 rfl) ?_
              refine lv_bipush (v := 10) hx hb dX8_unpack_66 (by decide) ?_
              refine lv_icmp_ge (tgt := 75) hx hb dX8_unpack_68 (by decide) (fun c_29 => ?_) (fun c_29 => ?_)
              · exact absurd c_29 (by decide)
              · skip
                refine lv_iconst (v := 1) hx hb dX8_unpack_71 (by decide) ?_
                refine lv_goto (tgt := 76) hx hb dX8_unpack_72 (by decide) ?_
                refine lv_istore (lv' := [(5, .int 1), (7, .int 0), (6, .int x6), (4, .int (f_X8_half r_this_bytes p2 p3 0)), (0, .ref a_this), (1, .ref a_this_one), (2, .int p2), (3, .int p3)]) hx hb dX8_unpack_76 hl (by decide) rfl (fun ls hl => ?_)
                refine lv_aload_n hx hb dX8_unpack_78 rfl (lv_at hl 5 rfl) ?_
                refine lv_iload hx hb dX8_unpack_79 (lv_at hl 2 rfl) ?_
                refine lv_iload hx hb dX8_unpack_81 (lv_at hl 3 rfl) ?_
                refine lv_bipush (v := 11) hx hb dX8_unpack_83 (by decide) ?_
                refine lv_icmp_eq (tgt := 95) hx hb dX8_unpack_85 (by decide) (fun c_30 => ?_) (fun c_30 => ?_)
                · skip
                  rw [if_pos c_30] at hF
                  rw [if_pos c_30] at hs
                  refine lv_iload hx hb dX8_unpack_95 (lv_at hl 1 rfl) ?_
                  refine lv_ineg hx hb dX8_unpack_97 ?_
                  refine lv_goto (tgt := 103) hx hb dX8_unpack_98 (by decide) ?_
                  refine va_iast hx hb hK hP hD hS 2 1 rfl rfl (q_in hv c_24 (by decide)) dX8_unpack_103 (fun H locs hP hD hS => ?_)
                  have hP : va_P D vwCl [(a_this, oX8 a_this_bytes a_this_keys a_this_reg a_this_card a_this_filled a_this_taken a_this_line a_this_one a_this_two o_this), (a_this_bytes, .inl (k_this_bytes, 2048, .inl r_this_bytes)), (a_this_one, .inl (k_this_one, 40, .inl (upd r_this_one_L26 x6.toNatClampNeg (-0))))] H := hP
                  have hD : va_D A [(a_this, oX8 a_this_bytes a_this_keys a_this_reg a_this_card a_this_filled a_this_taken a_this_line a_this_one a_this_two o_this), (a_this_bytes, .inl (k_this_bytes, 2048, .inl r_this_bytes)), (a_this_one, .inl (k_this_one, 40, .inl (upd r_this_one_L26 x6.toNatClampNeg (-0))))] := hD
                  refine lv_iinc (v := (x6 + (1 : Int32))) (lv' := [(6, .int (x6 + (1 : Int32))), (5, .int 1), (7, .int 0), (4, .int (f_X8_half r_this_bytes p2 p3 0)), (0, .ref a_this), (1, .ref a_this_one), (2, .int p2), (3, .int p3)]) hx hb dX8_unpack_104 hl (k := 2) rfl rfl (by decide) rfl (fun ls hl => ?_)
                  refine lv_goto (tgt := 26) hx hb dX8_unpack_107 (by decide) ?_
                  exact ih (upd r_this_one_L26 x6.toNatClampNeg (-0)) (x6 + (1 : Int32)) true _ _ _ (by first | exact q_up hm c_3 | exact q_up hm hv | exact q_up hm c_24 | exact q_up hm c_25 | exact q_up hm c_26 | exact q_up hm c_30) (by first | exact q_upnn hv c_3 | exact q_upnn hv hv | exact q_upnn hv c_24 | exact q_upnn hv c_25 | exact q_upnn hv c_26 | exact q_upnn hv c_30) hP hD hS (lv_sub hl [0, 1, 3, 4, 5, 6, 7] rfl) hF hs
                · skip
                  rw [if_neg c_30] at hF
                  rw [if_neg c_30] at hs
                  refine lv_iload hx hb dX8_unpack_88 (lv_at hl 3 rfl) ?_
                  refine lv_bipush (v := 13) hx hb dX8_unpack_90 (by decide) ?_
                  refine lv_icmp_ne (tgt := 101) hx hb dX8_unpack_92 (by decide) (fun c_31 => ?_) (fun c_31 => ?_)
                  · skip
                    rw [if_neg c_31] at hF
                    rw [if_neg c_31] at hs
                    refine lv_iload hx hb dX8_unpack_101 (lv_at hl 1 rfl) ?_
                    refine va_iast hx hb hK hP hD hS 2 1 rfl rfl (q_in hv c_24 (by decide)) dX8_unpack_103 (fun H locs hP hD hS => ?_)
                    have hP : va_P D vwCl [(a_this, oX8 a_this_bytes a_this_keys a_this_reg a_this_card a_this_filled a_this_taken a_this_line a_this_one a_this_two o_this), (a_this_bytes, .inl (k_this_bytes, 2048, .inl r_this_bytes)), (a_this_one, .inl (k_this_one, 40, .inl (upd r_this_one_L26 x6.toNatClampNeg 0)))] H := hP
                    have hD : va_D A [(a_this, oX8 a_this_bytes a_this_keys a_this_reg a_this_card a_this_filled a_this_taken a_this_line a_this_one a_this_two o_this), (a_this_bytes, .inl (k_this_bytes, 2048, .inl r_this_bytes)), (a_this_one, .inl (k_this_one, 40, .inl (upd r_this_one_L26 x6.toNatClampNeg 0)))] := hD
                    refine lv_iinc (v := (x6 + (1 : Int32))) (lv' := [(6, .int (x6 + (1 : Int32))), (5, .int 1), (7, .int 0), (4, .int (f_X8_half r_this_bytes p2 p3 0)), (0, .ref a_this), (1, .ref a_this_one), (2, .int p2), (3, .int p3)]) hx hb dX8_unpack_104 hl (k := 2) rfl rfl (by decide) rfl (fun ls hl => ?_)
                    refine lv_goto (tgt := 26) hx hb dX8_unpack_107 (by decide) ?_
                    exact ih (upd r_this_one_L26 x6.toNatClampNeg 0) (x6 + (1 : Int32)) true _ _ _ (by first | exact q_up hm c_3 | exact q_up hm hv | exact q_up hm c_24 | exact q_up hm c_25 | exact q_up hm c_26 | exact q_up hm c_30 | exact q_up hm c_31) (by first | exact q_upnn hv c_3 | exact q_upnn hv hv | exact q_upnn hv c_24 | exact q_upnn hv c_25 | exact q_upnn hv c_26 | exact q_upnn hv c_30 | exact q_upnn hv c_31) hP hD hS (lv_sub hl [0, 1, 3, 4, 5, 6, 7] rfl) hF hs
                  · skip
                    rw [if_pos c_31] at hF
                    rw [if_pos c_31] at hs
                    refine lv_iload hx hb dX8_unpack_95 (lv_at hl 1 rfl) ?_
                    refine lv_ineg hx hb dX8_unpack_97 ?_
                    refine lv_goto (tgt := 103) hx hb dX8_unpack_98 (by decide) ?_
                    refine va_iast hx hb hK hP hD hS 2 1 rfl rfl (q_in hv c_24 (by decide)) dX8_unpack_103 (fun H locs hP hD hS => ?_)
                    have hP : va_P D vwCl [(a_this, oX8 a_this_bytes a_this_keys a_this_reg a_this_card a_this_filled a_this_taken a_this_line a_this_one a_this_two o_this), (a_this_bytes, .inl (k_this_bytes, 2048, .inl r_this_bytes)), (a_this_one, .inl (k_this_one, 40, .inl (upd r_this_one_L26 x6.toNatClampNeg (-0))))] H := hP
                    have hD : va_D A [(a_this, oX8 a_this_bytes a_this_keys a_this_reg a_this_card a_this_filled a_this_taken a_this_line a_this_one a_this_two o_this), (a_this_bytes, .inl (k_this_bytes, 2048, .inl r_this_bytes)), (a_this_one, .inl (k_this_one, 40, .inl (upd r_this_one_L26 x6.toNatClampNeg (-0))))] := hD
                    refine lv_iinc (v := (x6 + (1 : Int32))) (lv' := [(6, .int (x6 + (1 : Int32))), (5, .int 1), (7, .int 0), (4, .int (f_X8_half r_this_bytes p2 p3 0)), (0, .ref a_this), (1, .ref a_this_one), (2, .int p2), (3, .int p3)]) hx hb dX8_unpack_104 hl (k := 2) rfl rfl (by decide) rfl (fun ls hl => ?_)
                    refine lv_goto (tgt := 26) hx hb dX8_unpack_107 (by decide) ?_
                    exact ih (upd r_this_one_L26 x6.toNatClampNeg (-0)) (x6 + (1 : Int32)) true _ _ _ (by first | exact q_up hm c_3 | exact q_up hm hv | exact q_up hm c_24 | exact q_up hm c_25 | exact q_up hm c_26 | exact q_up hm c_30 | exact q_up hm c_31) (by first | exact q_upnn hv c_3 | exact q_upnn hv hv | exact q_upnn hv c_24 | exact q_upnn hv c_25 | exact q_upnn hv c_26 | exact q_upnn hv c_30 | exact q_upnn hv c_31) hP hD hS (lv_sub hl [0, 1, 3, 4, 5, 6, 7] rfl) hF hs
          · skip
            rw [if_neg c_25] at hF
            rw [if_neg c_25] at hs
            refine lv_aload_n hx hb dX8_unpack_43 rfl (lv_at hl 3 rfl) ?_
            refine lv_iload_n hx hb dX8_unpack_44 rfl (lv_at hl 5 rfl) ?_
            refine lv_iload_n hx hb dX8_unpack_45 rfl (lv_at hl 6 rfl) ?_
            refine lv_iload hx hb dX8_unpack_46 (lv_at hl 0 rfl) ?_
            refine lv_iconst (v := 1) hx hb dX8_unpack_48 (by decide) ?_
            refine lv_iadd hx hb dX8_unpack_49 ?_
            obtain ⟨hi_32, hs⟩ := hs
            refine q_Vi (rest := []) (c_X8_half l D a_this a_this_bytes a_this_keys a_this_reg a_this_card a_this_filled a_this_taken a_this_line a_this_one a_this_two k_this_bytes o_this r_this_bytes p2 p3 (x6 + (1 : Int32)) hi_32) cv_X8_half hx hb hml hown ht hN hK hA hP hD hS hl.1 (km_X8_203) ⟨Nat.le_of_ble_eq_true rfl, Nat.le_of_ble_eq_true rfl⟩ rfl rfl [0, 1] (by decide) rfl [0] rfl (fun _ => rfl) (ci := 8) rfl rfl rfl rfl rfl (Nat.le_of_ble_eq_true rfl) dX8_unpack_50 ⟨Nat.zero_le _, Nat.zero_le _⟩ (fun r u H locs hw hP hD hS => ?_)
            obtain ⟨rfl, rfl⟩ := hw
            have hP : va_P D vwCl [(a_this, oX8 a_this_bytes a_this_keys a_this_reg a_this_card a_this_filled a_this_taken a_this_line a_this_one a_this_two o_this), (a_this_bytes, .inl (k_this_bytes, 2048, .inl r_this_bytes)), (a_this_one, .inl (k_this_one, 40, .inl r_this_one_L26))] H := hP
            have hD : va_D A [(a_this, oX8 a_this_bytes a_this_keys a_this_reg a_this_card a_this_filled a_this_taken a_this_line a_this_one a_this_two o_this), (a_this_bytes, .inl (k_this_bytes, 2048, .inl r_this_bytes)), (a_this_one, .inl (k_this_one, 40, .inl r_this_one_L26))] := hD
            refine lv_goto (tgt := 57) hx hb dX8_unpack_53 (by decide) ?_
            refine lv_istore (lv' := [(7, .int (f_X8_half r_this_bytes p2 p3 (x6 + (1 : Int32)))), (6, .int x6), (5, .int (bI x5)), (4, .int (f_X8_half r_this_bytes p2 p3 0)), (0, .ref a_this), (1, .ref a_this_one), (2, .int p2), (3, .int p3)]) hx hb dX8_unpack_57 hl (by decide) rfl (fun ls hl => ?_)
            refine lv_iload hx hb dX8_unpack_59 (lv_at hl 2 rfl) ?_
            refine lv_if_eq (tgt := 75) hx hb dX8_unpack_61 (by decide) (fun c_34 => ?_) (fun c_34 => ?_)
            · have c_34 : ¬ x5 = true := by rw [(bI_eq0 _).mp c_34]; decide
              rw [if_neg c_34] at hF
              rw [if_neg c_34] at hs
              refine lv_iconst (v := 0) hx hb dX8_unpack_75 (by decide) ?_
              refine lv_istore (lv' := [(5, .int 0), (7, .int (f_X8_half r_this_bytes p2 p3 (x6 + (1 : Int32)))), (6, .int x6), (4, .int (f_X8_half r_this_bytes p2 p3 0)), (0, .ref a_this), (1, .ref a_this_one), (2, .int p2), (3, .int p3)]) hx hb dX8_unpack_76 hl (by decide) rfl (fun ls hl => ?_)
              refine lv_aload_n hx hb dX8_unpack_78 rfl (lv_at hl 5 rfl) ?_
              refine lv_iload hx hb dX8_unpack_79 (lv_at hl 2 rfl) ?_
              refine lv_iload hx hb dX8_unpack_81 (lv_at hl 3 rfl) ?_
              refine lv_bipush (v := 11) hx hb dX8_unpack_83 (by decide) ?_
              refine lv_icmp_eq (tgt := 95) hx hb dX8_unpack_85 (by decide) (fun c_35 => ?_) (fun c_35 => ?_)
              · skip
                rw [if_pos c_35] at hF
                rw [if_pos c_35] at hs
                refine lv_iload hx hb dX8_unpack_95 (lv_at hl 1 rfl) ?_
                refine lv_ineg hx hb dX8_unpack_97 ?_
                refine lv_goto (tgt := 103) hx hb dX8_unpack_98 (by decide) ?_
                refine va_iast hx hb hK hP hD hS 2 1 rfl rfl (q_in hv c_24 (by decide)) dX8_unpack_103 (fun H locs hP hD hS => ?_)
                have hP : va_P D vwCl [(a_this, oX8 a_this_bytes a_this_keys a_this_reg a_this_card a_this_filled a_this_taken a_this_line a_this_one a_this_two o_this), (a_this_bytes, .inl (k_this_bytes, 2048, .inl r_this_bytes)), (a_this_one, .inl (k_this_one, 40, .inl (upd r_this_one_L26 x6.toNatClampNeg (-(f_X8_half r_this_bytes p2 p3 (x6 + (1 : Int32)))))))] H := hP
                have hD : va_D A [(a_this, oX8 a_this_bytes a_this_keys a_this_reg a_this_card a_this_filled a_this_taken a_this_line a_this_one a_this_two o_this), (a_this_bytes, .inl (k_this_bytes, 2048, .inl r_this_bytes)), (a_this_one, .inl (k_this_one, 40, .inl (upd r_this_one_L26 x6.toNatClampNeg (-(f_X8_half r_this_bytes p2 p3 (x6 + (1 : Int32)))))))] := hD
                refine lv_iinc (v := (x6 + (1 : Int32))) (lv' := [(6, .int (x6 + (1 : Int32))), (5, .int 0), (7, .int (f_X8_half r_this_bytes p2 p3 (x6 + (1 : Int32)))), (4, .int (f_X8_half r_this_bytes p2 p3 0)), (0, .ref a_this), (1, .ref a_this_one), (2, .int p2), (3, .int p3)]) hx hb dX8_unpack_104 hl (k := 2) rfl rfl (by decide) rfl (fun ls hl => ?_)
                refine lv_goto (tgt := 26) hx hb dX8_unpack_107 (by decide) ?_
                exact ih (upd r_this_one_L26 x6.toNatClampNeg (-(f_X8_half r_this_bytes p2 p3 (x6 + (1 : Int32))))) (x6 + (1 : Int32)) false _ _ _ (by first | exact q_up hm c_3 | exact q_up hm hv | exact q_up hm c_24 | exact q_up hm c_25 | exact q_up hm c_34 | exact q_up hm c_35) (by first | exact q_upnn hv c_3 | exact q_upnn hv hv | exact q_upnn hv c_24 | exact q_upnn hv c_25 | exact q_upnn hv c_34 | exact q_upnn hv c_35) hP hD hS (lv_sub hl [0, 1, 3, 4, 5, 6, 7] rfl) hF hs
              · skip
                rw [if_neg c_35] at hF
                rw [if_neg c_35] at hs
                refine lv_iload hx hb dX8_unpack_88 (lv_at hl 3 rfl) ?_
                refine lv_bipush (v := 13) hx hb dX8_unpack_90 (by decide) ?_
                refine lv_icmp_ne (tgt := 101) hx hb dX8_unpack_92 (by decide) (fun c_36 => ?_) (fun c_36 => ?_)
                · skip
                  rw [if_neg c_36] at hF
                  rw [if_neg c_36] at hs
                  refine lv_iload hx hb dX8_unpack_101 (lv_at hl 1 rfl) ?_
                  refine va_iast hx hb hK hP hD hS 2 1 rfl rfl (q_in hv c_24 (by decide)) dX8_unpack_103 (fun H locs hP hD hS => ?_)
                  have hP : va_P D vwCl [(a_this, oX8 a_this_bytes a_this_keys a_this_reg a_this_card a_this_filled a_this_taken a_this_line a_this_one a_this_two o_this), (a_this_bytes, .inl (k_this_bytes, 2048, .inl r_this_bytes)), (a_this_one, .inl (k_this_one, 40, .inl (upd r_this_one_L26 x6.toNatClampNeg (f_X8_half r_this_bytes p2 p3 (x6 + (1 : Int32))))))] H := hP
                  have hD : va_D A [(a_this, oX8 a_this_bytes a_this_keys a_this_reg a_this_card a_this_filled a_this_taken a_this_line a_this_one a_this_two o_this), (a_this_bytes, .inl (k_this_bytes, 2048, .inl r_this_bytes)), (a_this_one, .inl (k_this_one, 40, .inl (upd r_this_one_L26 x6.toNatClampNeg (f_X8_half r_this_bytes p2 p3 (x6 + (1 : Int32))))))] := hD
                  refine lv_iinc (v := (x6 + (1 : Int32))) (lv' := [(6, .int (x6 + (1 : Int32))), (5, .int 0), (7, .int (f_X8_half r_this_bytes p2 p3 (x6 + (1 : Int32)))), (4, .int (f_X8_half r_this_bytes p2 p3 0)), (0, .ref a_this), (1, .ref a_this_one), (2, .int p2), (3, .int p3)]) hx hb dX8_unpack_104 hl (k := 2) rfl rfl (by decide) rfl (fun ls hl => ?_)
                  refine lv_goto (tgt := 26) hx hb dX8_unpack_107 (by decide) ?_
                  exact ih (upd r_this_one_L26 x6.toNatClampNeg (f_X8_half r_this_bytes p2 p3 (x6 + (1 : Int32)))) (x6 + (1 : Int32)) false _ _ _ (by first | exact q_up hm c_3 | exact q_up hm hv | exact q_up hm c_24 | exact q_up hm c_25 | exact q_up hm c_34 | exact q_up hm c_35 | exact q_up hm c_36) (by first | exact q_upnn hv c_3 | exact q_upnn hv hv | exact q_upnn hv c_24 | exact q_upnn hv c_25 | exact q_upnn hv c_34 | exact q_upnn hv c_35 | exact q_upnn hv c_36) hP hD hS (lv_sub hl [0, 1, 3, 4, 5, 6, 7] rfl) hF hs
                · skip
                  rw [if_pos c_36] at hF
                  rw [if_pos c_36] at hs
                  refine lv_iload hx hb dX8_unpack_95 (lv_at hl 1 rfl) ?_
                  refine lv_ineg hx hb dX8_unpack_97 ?_
                  refine lv_goto (tgt := 103) hx hb dX8_unpack_98 (by decide) ?_
                  refine va_iast hx hb hK hP hD hS 2 1 rfl rfl (q_in hv c_24 (by decide)) dX8_unpack_103 (fun H locs hP hD hS => ?_)
                  have hP : va_P D vwCl [(a_this, oX8 a_this_bytes a_this_keys a_this_reg a_this_card a_this_filled a_this_taken a_this_line a_this_one a_this_two o_this), (a_this_bytes, .inl (k_this_bytes, 2048, .inl r_this_bytes)), (a_this_one, .inl (k_this_one, 40, .inl (upd r_this_one_L26 x6.toNatClampNeg (-(f_X8_half r_this_bytes p2 p3 (x6 + (1 : Int32)))))))] H := hP
                  have hD : va_D A [(a_this, oX8 a_this_bytes a_this_keys a_this_reg a_this_card a_this_filled a_this_taken a_this_line a_this_one a_this_two o_this), (a_this_bytes, .inl (k_this_bytes, 2048, .inl r_this_bytes)), (a_this_one, .inl (k_this_one, 40, .inl (upd r_this_one_L26 x6.toNatClampNeg (-(f_X8_half r_this_bytes p2 p3 (x6 + (1 : Int32)))))))] := hD
                  refine lv_iinc (v := (x6 + (1 : Int32))) (lv' := [(6, .int (x6 + (1 : Int32))), (5, .int 0), (7, .int (f_X8_half r_this_bytes p2 p3 (x6 + (1 : Int32)))), (4, .int (f_X8_half r_this_bytes p2 p3 0)), (0, .ref a_this), (1, .ref a_this_one), (2, .int p2), (3, .int p3)]) hx hb dX8_unpack_104 hl (k := 2) rfl rfl (by decide) rfl (fun ls hl => ?_)
                  refine lv_goto (tgt := 26) hx hb dX8_unpack_107 (by decide) ?_
                  exact ih (upd r_this_one_L26 x6.toNatClampNeg (-(f_X8_half r_this_bytes p2 p3 (x6 + (1 : Int32))))) (x6 + (1 : Int32)) false _ _ _ (by first | exact q_up hm c_3 | exact q_up hm hv | exact q_up hm c_24 | exact q_up hm c_25 | exact q_up hm c_34 | exact q_up hm c_35 | exact q_up hm c_36) (by first | exact q_upnn hv c_3 | exact q_upnn hv hv | exact q_upnn hv c_24 | exact q_upnn hv c_25 | exact q_upnn hv c_34 | exact q_upnn hv c_35 | exact q_upnn hv c_36) hP hD hS (lv_sub hl [0, 1, 3, 4, 5, 6, 7] rfl) hF hs
            · have c_34 := (bI_ne0 _).mp c_34
              rw [if_pos c_34] at hF
              rw [if_pos c_34] at hs
              refine lv_iload hx hb dX8_unpack_64 (lv_at hl 0 rfl) ?_
              refine lv_bipush (v := 10) hx hb dX8_unpack_66 (by decide) ?_
              refine lv_icmp_ge (tgt := 75) hx hb dX8_unpack_68 (by decide) (fun c_37 => ?_) (fun c_37 => ?_)
              · skip
                rw [if_pos c_37] at hF
                rw [if_pos c_37] at hs
                refine lv_iconst (v := 0) hx hb dX8_unpack_75 (by decide) ?_
                refine lv_istore (lv' := [(5, .int 0), (7, .int (f_X8_half r_this_bytes p2 p3 (x6 + (1 : Int32)))), (6, .int x6), (4, .int (f_X8_half r_this_bytes p2 p3 0)), (0, .ref a_this), (1, .ref a_this_one), (2, .int p2), (3, .int p3)]) hx hb dX8_unpack_76 hl (by decide) rfl (fun ls hl => ?_)
                refine lv_aload_n hx hb dX8_unpack_78 rfl (lv_at hl 5 rfl) ?_
                refine lv_iload hx hb dX8_unpack_79 (lv_at hl 2 rfl) ?_
                refine lv_iload hx hb dX8_unpack_81 (lv_at hl 3 rfl) ?_
                refine lv_bipush (v := 11) hx hb dX8_unpack_83 (by decide) ?_
                refine lv_icmp_eq (tgt := 95) hx hb dX8_unpack_85 (by decide) (fun c_38 => ?_) (fun c_38 => ?_)
                · skip
                  rw [if_pos c_38] at hF
                  rw [if_pos c_38] at hs
                  refine lv_iload hx hb dX8_unpack_95 (lv_at hl 1 rfl) ?_
                  refine lv_ineg hx hb dX8_unpack_97 ?_
                  refine lv_goto (tgt := 103) hx hb dX8_unpack_98 (by decide) ?_
                  refine va_iast hx hb hK hP hD hS 2 1 rfl rfl (q_in hv c_24 (by decide)) dX8_unpack_103 (fun H locs hP hD hS => ?_)
                  have hP : va_P D vwCl [(a_this, oX8 a_this_bytes a_this_keys a_this_reg a_this_card a_this_filled a_this_taken a_this_line a_this_one a_this_two o_this), (a_this_bytes, .inl (k_this_bytes, 2048, .inl r_this_bytes)), (a_this_one, .inl (k_this_one, 40, .inl (upd r_this_one_L26 x6.toNatClampNeg (-(f_X8_half r_this_bytes p2 p3 (x6 + (1 : Int32)))))))] H := hP
                  have hD : va_D A [(a_this, oX8 a_this_bytes a_this_keys a_this_reg a_this_card a_this_filled a_this_taken a_this_line a_this_one a_this_two o_this), (a_this_bytes, .inl (k_this_bytes, 2048, .inl r_this_bytes)), (a_this_one, .inl (k_this_one, 40, .inl (upd r_this_one_L26 x6.toNatClampNeg (-(f_X8_half r_this_bytes p2 p3 (x6 + (1 : Int32)))))))] := hD
                  refine lv_iinc (v := (x6 + (1 : Int32))) (lv' := [(6, .int (x6 + (1 : Int32))), (5, .int 0), (7, .int (f_X8_half r_this_bytes p2 p3 (x6 + (1 : Int32)))), (4, .int (f_X8_half r_this_bytes p2 p3 0)), (0, .ref a_this), (1, .ref a_this_one), (2, .int p2), (3, .int p3)]) hx hb dX8_unpack_104 hl (k := 2) rfl rfl (by decide) rfl (fun ls hl => ?_)
                  refine lv_goto (tgt := 26) hx hb dX8_unpack_107 (by decide) ?_
                  exact ih (upd r_this_one_L26 x6.toNatClampNeg (-(f_X8_half r_this_bytes p2 p3 (x6 + (1 : Int32))))) (x6 + (1 : Int32)) false _ _ _ (by first | exact q_up hm c_3 | exact q_up hm hv | exact q_up hm c_24 | exact q_up hm c_25 | exact q_up hm c_34 | exact q_up hm c_37 | exact q_up hm c_38) (by first | exact q_upnn hv c_3 | exact q_upnn hv hv | exact q_upnn hv c_24 | exact q_upnn hv c_25 | exact q_upnn hv c_34 | exact q_upnn hv c_37 | exact q_upnn hv c_38) hP hD hS (lv_sub hl [0, 1, 3, 4, 5, 6, 7] rfl) hF hs
                · skip
                  rw [if_neg c_38] at hF
                  rw [if_neg c_38] at hs
                  refine lv_iload hx hb dX8_unpack_88 (lv_at hl 3 rfl) ?_
                  refine lv_bipush (v := 13) hx hb dX8_unpack_90 (by decide) ?_
                  refine lv_icmp_ne (tgt := 101) hx hb dX8_unpack_92 (by decide) (fun c_39 => ?_) (fun c_39 => ?_)
                  · skip
                    rw [if_neg c_39] at hF
                    rw [if_neg c_39] at hs
                    refine lv_iload hx hb dX8_unpack_101 (lv_at hl 1 rfl) ?_
                    refine va_iast hx hb hK hP hD hS 2 1 rfl rfl (q_in hv c_24 (by decide)) dX8_unpack_103 (fun H locs hP hD hS => ?_)
                    have hP : va_P D vwCl [(a_this, oX8 a_this_bytes a_this_keys a_this_reg a_this_card a_this_filled a_this_taken a_this_line a_this_one a_this_two o_this), (a_this_bytes, .inl (k_this_bytes, 2048, .inl r_this_bytes)), (a_this_one, .inl (k_this_one, 40, .inl (upd r_this_one_L26 x6.toNatClampNeg (f_X8_half r_this_bytes p2 p3 (x6 + (1 : Int32))))))] H := hP
                    have hD : va_D A [(a_this, oX8 a_this_bytes a_this_keys a_this_reg a_this_card a_this_filled a_this_taken a_this_line a_this_one a_this_two o_this), (a_this_bytes, .inl (k_this_bytes, 2048, .inl r_this_bytes)), (a_this_one, .inl (k_this_one, 40, .inl (upd r_this_one_L26 x6.toNatClampNeg (f_X8_half r_this_bytes p2 p3 (x6 + (1 : Int32))))))] := hD
                    refine lv_iinc (v := (x6 + (1 : Int32))) (lv' := [(6, .int (x6 + (1 : Int32))), (5, .int 0), (7, .int (f_X8_half r_this_bytes p2 p3 (x6 + (1 : Int32)))), (4, .int (f_X8_half r_this_bytes p2 p3 0)), (0, .ref a_this), (1, .ref a_this_one), (2, .int p2), (3, .int p3)]) hx hb dX8_unpack_104 hl (k := 2) rfl rfl (by decide) rfl (fun ls hl => ?_)
                    refine lv_goto (tgt := 26) hx hb dX8_unpack_107 (by decide) ?_
                    exact ih (upd r_this_one_L26 x6.toNatClampNeg (f_X8_half r_this_bytes p2 p3 (x6 + (1 : Int32)))) (x6 + (1 : Int32)) false _ _ _ (by first | exact q_up hm c_3 | exact q_up hm hv | exact q_up hm c_24 | exact q_up hm c_25 | exact q_up hm c_34 | exact q_up hm c_37 | exact q_up hm c_38 | exact q_up hm c_39) (by first | exact q_upnn hv c_3 | exact q_upnn hv hv | exact q_upnn hv c_24 | exact q_upnn hv c_25 | exact q_upnn hv c_34 | exact q_upnn hv c_37 | exact q_upnn hv c_38 | exact q_upnn hv c_39) hP hD hS (lv_sub hl [0, 1, 3, 4, 5, 6, 7] rfl) hF hs
                  · skip
                    rw [if_pos c_39] at hF
                    rw [if_pos c_39] at hs
                    refine lv_iload hx hb dX8_unpack_95 (lv_at hl 1 rfl) ?_
                    refine lv_ineg hx hb dX8_unpack_97 ?_
                    refine lv_goto (tgt := 103) hx hb dX8_unpack_98 (by decide) ?_
                    refine va_iast hx hb hK hP hD hS 2 1 rfl rfl (q_in hv c_24 (by decide)) dX8_unpack_103 (fun H locs hP hD hS => ?_)
                    have hP : va_P D vwCl [(a_this, oX8 a_this_bytes a_this_keys a_this_reg a_this_card a_this_filled a_this_taken a_this_line a_this_one a_this_two o_this), (a_this_bytes, .inl (k_this_bytes, 2048, .inl r_this_bytes)), (a_this_one, .inl (k_this_one, 40, .inl (upd r_this_one_L26 x6.toNatClampNeg (-(f_X8_half r_this_bytes p2 p3 (x6 + (1 : Int32)))))))] H := hP
                    have hD : va_D A [(a_this, oX8 a_this_bytes a_this_keys a_this_reg a_this_card a_this_filled a_this_taken a_this_line a_this_one a_this_two o_this), (a_this_bytes, .inl (k_this_bytes, 2048, .inl r_this_bytes)), (a_this_one, .inl (k_this_one, 40, .inl (upd r_this_one_L26 x6.toNatClampNeg (-(f_X8_half r_this_bytes p2 p3 (x6 + (1 : Int32)))))))] := hD
                    refine lv_iinc (v := (x6 + (1 : Int32))) (lv' := [(6, .int (x6 + (1 : Int32))), (5, .int 0), (7, .int (f_X8_half r_this_bytes p2 p3 (x6 + (1 : Int32)))), (4, .int (f_X8_half r_this_bytes p2 p3 0)), (0, .ref a_this), (1, .ref a_this_one), (2, .int p2), (3, .int p3)]) hx hb dX8_unpack_104 hl (k := 2) rfl rfl (by decide) rfl (fun ls hl => ?_)
                    refine lv_goto (tgt := 26) hx hb dX8_unpack_107 (by decide) ?_
                    exact ih (upd r_this_one_L26 x6.toNatClampNeg (-(f_X8_half r_this_bytes p2 p3 (x6 + (1 : Int32))))) (x6 + (1 : Int32)) false _ _ _ (by first | exact q_up hm c_3 | exact q_up hm hv | exact q_up hm c_24 | exact q_up hm c_25 | exact q_up hm c_34 | exact q_up hm c_37 | exact q_up hm c_38 | exact q_up hm c_39) (by first | exact q_upnn hv c_3 | exact q_upnn hv hv | exact q_upnn hv c_24 | exact q_upnn hv c_25 | exact q_upnn hv c_34 | exact q_upnn hv c_37 | exact q_upnn hv c_38 | exact q_upnn hv c_39) hP hD hS (lv_sub hl [0, 1, 3, 4, 5, 6, 7] rfl) hF hs
              · skip
                rw [if_neg c_37] at hF
                rw [if_neg c_37] at hs
                refine lv_iconst (v := 1) hx hb dX8_unpack_71 (by decide) ?_
                refine lv_goto (tgt := 76) hx hb dX8_unpack_72 (by decide) ?_
                refine lv_istore (lv' := [(5, .int 1), (7, .int (f_X8_half r_this_bytes p2 p3 (x6 + (1 : Int32)))), (6, .int x6), (4, .int (f_X8_half r_this_bytes p2 p3 0)), (0, .ref a_this), (1, .ref a_this_one), (2, .int p2), (3, .int p3)]) hx hb dX8_unpack_76 hl (by decide) rfl (fun ls hl => ?_)
                refine lv_aload_n hx hb dX8_unpack_78 rfl (lv_at hl 5 rfl) ?_
                refine lv_iload hx hb dX8_unpack_79 (lv_at hl 2 rfl) ?_
                refine lv_iload hx hb dX8_unpack_81 (lv_at hl 3 rfl) ?_
                refine lv_bipush (v := 11) hx hb dX8_unpack_83 (by decide) ?_
                refine lv_icmp_eq (tgt := 95) hx hb dX8_unpack_85 (by decide) (fun c_40 => ?_) (fun c_40 => ?_)
                · skip
                  rw [if_pos c_40] at hF
                  rw [if_pos c_40] at hs
                  refine lv_iload hx hb dX8_unpack_95 (lv_at hl 1 rfl) ?_
                  refine lv_ineg hx hb dX8_unpack_97 ?_
                  refine lv_goto (tgt := 103) hx hb dX8_unpack_98 (by decide) ?_
                  refine va_iast hx hb hK hP hD hS 2 1 rfl rfl (q_in hv c_24 (by decide)) dX8_unpack_103 (fun H locs hP hD hS => ?_)
                  have hP : va_P D vwCl [(a_this, oX8 a_this_bytes a_this_keys a_this_reg a_this_card a_this_filled a_this_taken a_this_line a_this_one a_this_two o_this), (a_this_bytes, .inl (k_this_bytes, 2048, .inl r_this_bytes)), (a_this_one, .inl (k_this_one, 40, .inl (upd r_this_one_L26 x6.toNatClampNeg (-(f_X8_half r_this_bytes p2 p3 (x6 + (1 : Int32)))))))] H := hP
                  have hD : va_D A [(a_this, oX8 a_this_bytes a_this_keys a_this_reg a_this_card a_this_filled a_this_taken a_this_line a_this_one a_this_two o_this), (a_this_bytes, .inl (k_this_bytes, 2048, .inl r_this_bytes)), (a_this_one, .inl (k_this_one, 40, .inl (upd r_this_one_L26 x6.toNatClampNeg (-(f_X8_half r_this_bytes p2 p3 (x6 + (1 : Int32)))))))] := hD
                  refine lv_iinc (v := (x6 + (1 : Int32))) (lv' := [(6, .int (x6 + (1 : Int32))), (5, .int 1), (7, .int (f_X8_half r_this_bytes p2 p3 (x6 + (1 : Int32)))), (4, .int (f_X8_half r_this_bytes p2 p3 0)), (0, .ref a_this), (1, .ref a_this_one), (2, .int p2), (3, .int p3)]) hx hb dX8_unpack_104 hl (k := 2) rfl rfl (by decide) rfl (fun ls hl => ?_)
                  refine lv_goto (tgt := 26) hx hb dX8_unpack_107 (by decide) ?_
                  exact ih (upd r_this_one_L26 x6.toNatClampNeg (-(f_X8_half r_this_bytes p2 p3 (x6 + (1 : Int32))))) (x6 + (1 : Int32)) true _ _ _ (by first | exact q_up hm c_3 | exact q_up hm hv | exact q_up hm c_24 | exact q_up hm c_25 | exact q_up hm c_34 | exact q_up hm c_37 | exact q_up hm c_40) (by first | exact q_upnn hv c_3 | exact q_upnn hv hv | exact q_upnn hv c_24 | exact q_upnn hv c_25 | exact q_upnn hv c_34 | exact q_upnn hv c_37 | exact q_upnn hv c_40) hP hD hS (lv_sub hl [0, 1, 3, 4, 5, 6, 7] rfl) hF hs
                · skip
                  rw [if_neg c_40] at hF
                  rw [if_neg c_40] at hs
                  refine lv_iload hx hb dX8_unpack_88 (lv_at hl 3 rfl) ?_
                  refine lv_bipush (v := 13) hx hb dX8_unpack_90 (by decide) ?_
                  refine lv_icmp_ne (tgt := 101) hx hb dX8_unpack_92 (by decide) (fun c_41 => ?_) (fun c_41 => ?_)
                  · skip
                    rw [if_neg c_41] at hF
                    rw [if_neg c_41] at hs
                    refine lv_iload hx hb dX8_unpack_101 (lv_at hl 1 rfl) ?_
                    refine va_iast hx hb hK hP hD hS 2 1 rfl rfl (q_in hv c_24 (by decide)) dX8_unpack_103 (fun H locs hP hD hS => ?_)
                    have hP : va_P D vwCl [(a_this, oX8 a_this_bytes a_this_keys a_this_reg a_this_card a_this_filled a_this_taken a_this_line a_this_one a_this_two o_this), (a_this_bytes, .inl (k_this_bytes, 2048, .inl r_this_bytes)), (a_this_one, .inl (k_this_one, 40, .inl (upd r_this_one_L26 x6.toNatClampNeg (f_X8_half r_this_bytes p2 p3 (x6 + (1 : Int32))))))] H := hP
                    have hD : va_D A [(a_this, oX8 a_this_bytes a_this_keys a_this_reg a_this_card a_this_filled a_this_taken a_this_line a_this_one a_this_two o_this), (a_this_bytes, .inl (k_this_bytes, 2048, .inl r_this_bytes)), (a_this_one, .inl (k_this_one, 40, .inl (upd r_this_one_L26 x6.toNatClampNeg (f_X8_half r_this_bytes p2 p3 (x6 + (1 : Int32))))))] := hD
                    refine lv_iinc (v := (x6 + (1 : Int32))) (lv' := [(6, .int (x6 + (1 : Int32))), (5, .int 1), (7, .int (f_X8_half r_this_bytes p2 p3 (x6 + (1 : Int32)))), (4, .int (f_X8_half r_this_bytes p2 p3 0)), (0, .ref a_this), (1, .ref a_this_one), (2, .int p2), (3, .int p3)]) hx hb dX8_unpack_104 hl (k := 2) rfl rfl (by decide) rfl (fun ls hl => ?_)
                    refine lv_goto (tgt := 26) hx hb dX8_unpack_107 (by decide) ?_
                    exact ih (upd r_this_one_L26 x6.toNatClampNeg (f_X8_half r_this_bytes p2 p3 (x6 + (1 : Int32)))) (x6 + (1 : Int32)) true _ _ _ (by first | exact q_up hm c_3 | exact q_up hm hv | exact q_up hm c_24 | exact q_up hm c_25 | exact q_up hm c_34 | exact q_up hm c_37 | exact q_up hm c_40 | exact q_up hm c_41) (by first | exact q_upnn hv c_3 | exact q_upnn hv hv | exact q_upnn hv c_24 | exact q_upnn hv c_25 | exact q_upnn hv c_34 | exact q_upnn hv c_37 | exact q_upnn hv c_40 | exact q_upnn hv c_41) hP hD hS (lv_sub hl [0, 1, 3, 4, 5, 6, 7] rfl) hF hs
                  · skip
                    rw [if_pos c_41] at hF
                    rw [if_pos c_41] at hs
                    refine lv_iload hx hb dX8_unpack_95 (lv_at hl 1 rfl) ?_
                    refine lv_ineg hx hb dX8_unpack_97 ?_
                    refine lv_goto (tgt := 103) hx hb dX8_unpack_98 (by decide) ?_
                    refine va_iast hx hb hK hP hD hS 2 1 rfl rfl (q_in hv c_24 (by decide)) dX8_unpack_103 (fun H locs hP hD hS => ?_)
                    have hP : va_P D vwCl [(a_this, oX8 a_this_bytes a_this_keys a_this_reg a_this_card a_this_filled a_this_taken a_this_line a_this_one a_this_two o_this), (a_this_bytes, .inl (k_this_bytes, 2048, .inl r_this_bytes)), (a_this_one, .inl (k_this_one, 40, .inl (upd r_this_one_L26 x6.toNatClampNeg (-(f_X8_half r_this_bytes p2 p3 (x6 + (1 : Int32)))))))] H := hP
                    have hD : va_D A [(a_this, oX8 a_this_bytes a_this_keys a_this_reg a_this_card a_this_filled a_this_taken a_this_line a_this_one a_this_two o_this), (a_this_bytes, .inl (k_this_bytes, 2048, .inl r_this_bytes)), (a_this_one, .inl (k_this_one, 40, .inl (upd r_this_one_L26 x6.toNatClampNeg (-(f_X8_half r_this_bytes p2 p3 (x6 + (1 : Int32)))))))] := hD
                    refine lv_iinc (v := (x6 + (1 : Int32))) (lv' := [(6, .int (x6 + (1 : Int32))), (5, .int 1), (7, .int (f_X8_half r_this_bytes p2 p3 (x6 + (1 : Int32)))), (4, .int (f_X8_half r_this_bytes p2 p3 0)), (0, .ref a_this), (1, .ref a_this_one), (2, .int p2), (3, .int p3)]) hx hb dX8_unpack_104 hl (k := 2) rfl rfl (by decide) rfl (fun ls hl => ?_)
                    refine lv_goto (tgt := 26) hx hb dX8_unpack_107 (by decide) ?_
                    exact ih (upd r_this_one_L26 x6.toNatClampNeg (-(f_X8_half r_this_bytes p2 p3 (x6 + (1 : Int32))))) (x6 + (1 : Int32)) true _ _ _ (by first | exact q_up hm c_3 | exact q_up hm hv | exact q_up hm c_24 | exact q_up hm c_25 | exact q_up hm c_34 | exact q_up hm c_37 | exact q_up hm c_40 | exact q_up hm c_41) (by first | exact q_upnn hv c_3 | exact q_upnn hv hv | exact q_upnn hv c_24 | exact q_upnn hv c_25 | exact q_upnn hv c_34 | exact q_upnn hv c_37 | exact q_upnn hv c_40 | exact q_upnn hv c_41) hP hD hS (lv_sub hl [0, 1, 3, 4, 5, 6, 7] rfl) hF hs
    exact L26 (((40 : Int32).toInt - (0 : Int32).toInt).toNat + 1) r_this_one 0 true _ _ _ (Nat.lt_succ_self _) (by decide) hP hD hS (lv_sub hl [0, 1, 2, 3, 4, 5, 6] rfl) hF hs
theorem cv_X8_unpack : qV yX8_unpack cX8_unpack 8 (some .boolean) 3 := ⟨kc_X8_unpack, kt_X8_unpack, ks_X8_unpack, kn_X8, by decide, by decide +kernel⟩
def f_X8_unpackB_L26 (r_this_bytes : Nat → Int32) (p2 : Int32) (p3 : Int32) : Nat → (Nat → Int32) → Int32 → Bool → Bool × (Nat → Int32)
  | 0, r_this_two_L26, x6, x5 => (false, r_this_two_L26)
  | fuel + 1, r_this_two_L26, x6, x5 => (if (40 : Int32) ≤ x6 then (x5, r_this_two_L26) else (if (((2 : Int32) * p3) - (1 : Int32)) ≤ x6 then (if x5 = true then (if (f_X8_half r_this_bytes p2 p3 0) = (11 : Int32) then f_X8_unpackB_L26 r_this_bytes p2 p3 fuel (upd r_this_two_L26 x6.toNatClampNeg (-0)) (x6 + (1 : Int32)) true else (if (f_X8_half r_this_bytes p2 p3 0) = (13 : Int32) then f_X8_unpackB_L26 r_this_bytes p2 p3 fuel (upd r_this_two_L26 x6.toNatClampNeg (-0)) (x6 + (1 : Int32)) true else f_X8_unpackB_L26 r_this_bytes p2 p3 fuel (upd r_this_two_L26 x6.toNatClampNeg 0) (x6 + (1 : Int32)) true)) else (if (f_X8_half r_this_bytes p2 p3 0) = (11 : Int32) then f_X8_unpackB_L26 r_this_bytes p2 p3 fuel (upd r_this_two_L26 x6.toNatClampNeg (-0)) (x6 + (1 : Int32)) false else (if (f_X8_half r_this_bytes p2 p3 0) = (13 : Int32) then f_X8_unpackB_L26 r_this_bytes p2 p3 fuel (upd r_this_two_L26 x6.toNatClampNeg (-0)) (x6 + (1 : Int32)) false else f_X8_unpackB_L26 r_this_bytes p2 p3 fuel (upd r_this_two_L26 x6.toNatClampNeg 0) (x6 + (1 : Int32)) false))) else (if x5 = true then (if (10 : Int32) ≤ (f_X8_half r_this_bytes p2 p3 (x6 + (1 : Int32))) then (if (f_X8_half r_this_bytes p2 p3 0) = (11 : Int32) then f_X8_unpackB_L26 r_this_bytes p2 p3 fuel (upd r_this_two_L26 x6.toNatClampNeg (-(f_X8_half r_this_bytes p2 p3 (x6 + (1 : Int32))))) (x6 + (1 : Int32)) false else (if (f_X8_half r_this_bytes p2 p3 0) = (13 : Int32) then f_X8_unpackB_L26 r_this_bytes p2 p3 fuel (upd r_this_two_L26 x6.toNatClampNeg (-(f_X8_half r_this_bytes p2 p3 (x6 + (1 : Int32))))) (x6 + (1 : Int32)) false else f_X8_unpackB_L26 r_this_bytes p2 p3 fuel (upd r_this_two_L26 x6.toNatClampNeg (f_X8_half r_this_bytes p2 p3 (x6 + (1 : Int32)))) (x6 + (1 : Int32)) false)) else (if (f_X8_half r_this_bytes p2 p3 0) = (11 : Int32) then f_X8_unpackB_L26 r_this_bytes p2 p3 fuel (upd r_this_two_L26 x6.toNatClampNeg (-(f_X8_half r_this_bytes p2 p3 (x6 + (1 : Int32))))) (x6 + (1 : Int32)) true else (if (f_X8_half r_this_bytes p2 p3 0) = (13 : Int32) then f_X8_unpackB_L26 r_this_bytes p2 p3 fuel (upd r_this_two_L26 x6.toNatClampNeg (-(f_X8_half r_this_bytes p2 p3 (x6 + (1 : Int32))))) (x6 + (1 : Int32)) true else f_X8_unpackB_L26 r_this_bytes p2 p3 fuel (upd r_this_two_L26 x6.toNatClampNeg (f_X8_half r_this_bytes p2 p3 (x6 + (1 : Int32)))) (x6 + (1 : Int32)) true))) else (if (f_X8_half r_this_bytes p2 p3 0) = (11 : Int32) then f_X8_unpackB_L26 r_this_bytes p2 p3 fuel (upd r_this_two_L26 x6.toNatClampNeg (-(f_X8_half r_this_bytes p2 p3 (x6 + (1 : Int32))))) (x6 + (1 : Int32)) false else (if (f_X8_half r_this_bytes p2 p3 0) = (13 : Int32) then f_X8_unpackB_L26 r_this_bytes p2 p3 fuel (upd r_this_two_L26 x6.toNatClampNeg (-(f_X8_half r_this_bytes p2 p3 (x6 + (1 : Int32))))) (x6 + (1 : Int32)) false else f_X8_unpackB_L26 r_this_bytes p2 p3 fuel (upd r_this_two_L26 x6.toNatClampNeg (f_X8_half r_this_bytes p2 p3 (x6 + (1 : Int32)))) (x6 + (1 : Int32)) false)))))
def s_X8_unpackB_L26 (r_this_bytes : Nat → Int32) (p2 : Int32) (p3 : Int32) : Nat → (Nat → Int32) → Int32 → Bool → Prop
  | 0, _, _, _ => True
  | fuel + 1, r_this_two_L26, x6, x5 => (if (40 : Int32) ≤ x6 then True else (if (((2 : Int32) * p3) - (1 : Int32)) ≤ x6 then (if x5 = true then (if (f_X8_half r_this_bytes p2 p3 0) = (11 : Int32) then s_X8_unpackB_L26 r_this_bytes p2 p3 fuel (upd r_this_two_L26 x6.toNatClampNeg (-0)) (x6 + (1 : Int32)) true else (if (f_X8_half r_this_bytes p2 p3 0) = (13 : Int32) then s_X8_unpackB_L26 r_this_bytes p2 p3 fuel (upd r_this_two_L26 x6.toNatClampNeg (-0)) (x6 + (1 : Int32)) true else s_X8_unpackB_L26 r_this_bytes p2 p3 fuel (upd r_this_two_L26 x6.toNatClampNeg 0) (x6 + (1 : Int32)) true)) else (if (f_X8_half r_this_bytes p2 p3 0) = (11 : Int32) then s_X8_unpackB_L26 r_this_bytes p2 p3 fuel (upd r_this_two_L26 x6.toNatClampNeg (-0)) (x6 + (1 : Int32)) false else (if (f_X8_half r_this_bytes p2 p3 0) = (13 : Int32) then s_X8_unpackB_L26 r_this_bytes p2 p3 fuel (upd r_this_two_L26 x6.toNatClampNeg (-0)) (x6 + (1 : Int32)) false else s_X8_unpackB_L26 r_this_bytes p2 p3 fuel (upd r_this_two_L26 x6.toNatClampNeg 0) (x6 + (1 : Int32)) false))) else (s_X8_half p2 p3 (x6 + (1 : Int32)) ∧ (if x5 = true then (if (10 : Int32) ≤ (f_X8_half r_this_bytes p2 p3 (x6 + (1 : Int32))) then (if (f_X8_half r_this_bytes p2 p3 0) = (11 : Int32) then s_X8_unpackB_L26 r_this_bytes p2 p3 fuel (upd r_this_two_L26 x6.toNatClampNeg (-(f_X8_half r_this_bytes p2 p3 (x6 + (1 : Int32))))) (x6 + (1 : Int32)) false else (if (f_X8_half r_this_bytes p2 p3 0) = (13 : Int32) then s_X8_unpackB_L26 r_this_bytes p2 p3 fuel (upd r_this_two_L26 x6.toNatClampNeg (-(f_X8_half r_this_bytes p2 p3 (x6 + (1 : Int32))))) (x6 + (1 : Int32)) false else s_X8_unpackB_L26 r_this_bytes p2 p3 fuel (upd r_this_two_L26 x6.toNatClampNeg (f_X8_half r_this_bytes p2 p3 (x6 + (1 : Int32)))) (x6 + (1 : Int32)) false)) else (if (f_X8_half r_this_bytes p2 p3 0) = (11 : Int32) then s_X8_unpackB_L26 r_this_bytes p2 p3 fuel (upd r_this_two_L26 x6.toNatClampNeg (-(f_X8_half r_this_bytes p2 p3 (x6 + (1 : Int32))))) (x6 + (1 : Int32)) true else (if (f_X8_half r_this_bytes p2 p3 0) = (13 : Int32) then s_X8_unpackB_L26 r_this_bytes p2 p3 fuel (upd r_this_two_L26 x6.toNatClampNeg (-(f_X8_half r_this_bytes p2 p3 (x6 + (1 : Int32))))) (x6 + (1 : Int32)) true else s_X8_unpackB_L26 r_this_bytes p2 p3 fuel (upd r_this_two_L26 x6.toNatClampNeg (f_X8_half r_this_bytes p2 p3 (x6 + (1 : Int32)))) (x6 + (1 : Int32)) true))) else (if (f_X8_half r_this_bytes p2 p3 0) = (11 : Int32) then s_X8_unpackB_L26 r_this_bytes p2 p3 fuel (upd r_this_two_L26 x6.toNatClampNeg (-(f_X8_half r_this_bytes p2 p3 (x6 + (1 : Int32))))) (x6 + (1 : Int32)) false else (if (f_X8_half r_this_bytes p2 p3 0) = (13 : Int32) then s_X8_unpackB_L26 r_this_bytes p2 p3 fuel (upd r_this_two_L26 x6.toNatClampNeg (-(f_X8_half r_this_bytes p2 p3 (x6 + (1 : Int32))))) (x6 + (1 : Int32)) false else s_X8_unpackB_L26 r_this_bytes p2 p3 fuel (upd r_this_two_L26 x6.toNatClampNeg (f_X8_half r_this_bytes p2 p3 (x6 + (1 : Int32)))) (x6 + (1 : Int32)) false))))))
def f_X8_unpackB (r_this_bytes : Nat → Int32) (r_this_two : Nat → Int32) (p2 : Int32) (p3 : Int32) : Bool × (Nat → Int32) := (if (f_X8_half r_this_bytes p2 p3 0) ≤ (9 : Int32) then f_X8_unpackB_L26 r_this_bytes p2 p3 (((40 : Int32).toInt - (0 : Int32).toInt).toNat + 1) r_this_two 0 false else f_X8_unpackB_L26 r_this_bytes p2 p3 (((40 : Int32).toInt - (0 : Int32).toInt).toNat + 1) r_this_two 0 true)
def s_X8_unpackB (r_this_bytes : Nat → Int32) (r_this_two : Nat → Int32) (p2 : Int32) (p3 : Int32) : Prop := (s_X8_half p2 p3 0 ∧ (if (f_X8_half r_this_bytes p2 p3 0) ≤ (9 : Int32) then s_X8_unpackB_L26 r_this_bytes p2 p3 (((40 : Int32).toInt - (0 : Int32).toInt).toNat + 1) r_this_two 0 false else s_X8_unpackB_L26 r_this_bytes p2 p3 (((40 : Int32).toInt - (0 : Int32).toInt).toNat + 1) r_this_two 0 true))
set_option linter.all false in
set_option maxHeartbeats 4000000 in
set_option maxRecDepth 100000 in
theorem c_X8_unpackB (l : Launch) (D : va_G) (a_this a_this_bytes a_this_two a_this_keys a_this_reg a_this_card a_this_filled a_this_taken a_this_line a_this_one : Nat) (k_this_bytes k_this_two : ClassId) (o_this : Int32 × Int32 × Int32 × Int32 × Bool × Bool × Int32 × Int32 × Int32 × Int32 × Bool × Bool × Bool × Int32 × Int32 × Int32 × Int32 × Int32 × Int32 × Int32 × Int32 × Int32 × Int32 × Int32 × Int32) (r_this_bytes : Nat → Int32) (r_this_two : Nat → Int32) (p2 : Int32) (p3 : Int32) (hs : s_X8_unpackB r_this_bytes r_this_two p2 p3) : CtI l yX8_unpack cX8_unpack 8 (some .boolean) { frames := 1, cells := 0, slots := 0, locals := 24 } D [.ref a_this, .ref a_this_two, .int p2, .int p3] [(a_this, oX8 a_this_bytes a_this_keys a_this_reg a_this_card a_this_filled a_this_taken a_this_line a_this_one a_this_two o_this), (a_this_bytes, .inl (k_this_bytes, 2048, .inl r_this_bytes)), (a_this_two, .inl (k_this_two, 40, .inl r_this_two))] [(k_this_bytes, .int), (k_this_two, .int)] (fun (r : Int32) (u : Bool × (Nat → Int32)) => f_X8_unpackB r_this_bytes r_this_two p2 p3 = u ∧ r = bI u.1) (fun u => [(a_this, oX8 a_this_bytes a_this_keys a_this_reg a_this_card a_this_filled a_this_taken a_this_line a_this_one a_this_two o_this), (a_this_bytes, .inl (k_this_bytes, 2048, .inl r_this_bytes)), (a_this_two, .inl (k_this_two, 40, .inl u.2))]) := by
  refine CtI.ofZ (by decide) (Nat.le_of_ble_eq_true rfl) ?_
  intro p e s m below meth c A ls Q hE hP hD hS hl hQ
  obtain ⟨hx, hb, hml, hown, ht, hN, hK, hA⟩ := hE
  have hown : s.vm.findClass RX8 = some m.cls := hown
  have hl : lv_has ls 8 [(0, .ref a_this), (1, .ref a_this_two), (2, .int p2), (3, .int p3)] := hl
  obtain ⟨F, hF⟩ : ∃ F, f_X8_unpackB r_this_bytes r_this_two p2 p3 = F := ⟨_, rfl⟩
  rw [hF] at hQ
  unfold f_X8_unpackB at hF
  unfold s_X8_unpackB at hs
  refine lv_aload_n hx hb dX8_unpack_0 rfl (lv_at hl 0 rfl) ?_
  refine lv_iload_n hx hb dX8_unpack_1 rfl (lv_at hl 2 rfl) ?_
  refine lv_iload_n hx hb dX8_unpack_2 rfl (lv_at hl 3 rfl) ?_
  refine lv_iconst (v := 0) hx hb dX8_unpack_3 (by decide) ?_
  obtain ⟨hi_1, hs⟩ := hs
  refine q_Vi (rest := []) (c_X8_half l D a_this a_this_bytes a_this_keys a_this_reg a_this_card a_this_filled a_this_taken a_this_line a_this_one a_this_two k_this_bytes o_this r_this_bytes p2 p3 0 hi_1) cv_X8_half hx hb hml hown ht hN hK hA hP hD hS hl.1 (km_X8_203) ⟨Nat.le_of_ble_eq_true rfl, Nat.le_of_ble_eq_true rfl⟩ rfl rfl [0, 1] (by decide) rfl [0] rfl (fun _ => rfl) (ci := 8) rfl rfl rfl rfl rfl (Nat.le_of_ble_eq_true rfl) dX8_unpack_4 ⟨Nat.zero_le _, Nat.zero_le _⟩ (fun r u H locs hw hP hD hS => ?_)
  obtain ⟨rfl, rfl⟩ := hw
  have hP : va_P D vwCl [(a_this, oX8 a_this_bytes a_this_keys a_this_reg a_this_card a_this_filled a_this_taken a_this_line a_this_one a_this_two o_this), (a_this_bytes, .inl (k_this_bytes, 2048, .inl r_this_bytes)), (a_this_two, .inl (k_this_two, 40, .inl r_this_two))] H := hP
  have hD : va_D A [(a_this, oX8 a_this_bytes a_this_keys a_this_reg a_this_card a_this_filled a_this_taken a_this_line a_this_one a_this_two o_this), (a_this_bytes, .inl (k_this_bytes, 2048, .inl r_this_bytes)), (a_this_two, .inl (k_this_two, 40, .inl r_this_two))] := hD
  refine lv_istore (lv' := [(4, .int (f_X8_half r_this_bytes p2 p3 0)), (0, .ref a_this), (1, .ref a_this_two), (2, .int p2), (3, .int p3)]) hx hb dX8_unpack_7 hl (by decide) rfl (fun ls hl => ?_)
  refine lv_iload hx hb dX8_unpack_9 (lv_at hl 0 rfl) ?_
  refine lv_bipush (v := 9) hx hb dX8_unpack_11 (by decide) ?_
  refine lv_icmp_le (tgt := 20) hx hb dX8_unpack_13 (by decide) (fun c_3 => ?_) (fun c_3 => ?_)
  · skip
    rw [if_pos c_3] at hF
    rw [if_pos c_3] at hs
    refine lv_iconst (v := 0) hx hb dX8_unpack_20 (by decide) ?_
    refine lv_istore (lv' := [(5, .int 0), (4, .int (f_X8_half r_this_bytes p2 p3 0)), (0, .ref a_this), (1, .ref a_this_two), (2, .int p2), (3, .int p3)]) hx hb dX8_unpack_21 hl (by decide) rfl (fun ls hl => ?_)
    refine lv_iconst (v := 0) hx hb dX8_unpack_23 (by decide) ?_
    refine lv_istore (lv' := [(6, .int 0), (5, .int 0), (4, .int (f_X8_half r_this_bytes p2 p3 0)), (0, .ref a_this), (1, .ref a_this_two), (2, .int p2), (3, .int p3)]) hx hb dX8_unpack_24 hl (by decide) rfl (fun ls hl => ?_)
    have L26 : ∀ (fuel : Nat) (r_this_two_L26 : Nat → Int32) (x6 : Int32) (x5 : Bool) (H : Heap) (locs : List Loc) (ls : Array Slot), ((40 : Int32).toInt - (x6 : Int32).toInt).toNat < fuel → ¬ x6 < 0 → va_P D vwCl [(a_this, oX8 a_this_bytes a_this_keys a_this_reg a_this_card a_this_filled a_this_taken a_this_line a_this_one a_this_two o_this), (a_this_bytes, .inl (k_this_bytes, 2048, .inl r_this_bytes)), (a_this_two, .inl (k_this_two, 40, .inl r_this_two_L26))] H → va_D A [(a_this, oX8 a_this_bytes a_this_keys a_this_reg a_this_card a_this_filled a_this_taken a_this_line a_this_one a_this_two o_this), (a_this_bytes, .inl (k_this_bytes, 2048, .inl r_this_bytes)), (a_this_two, .inl (k_this_two, 40, .inl r_this_two_L26))] → va_S A s.heap H locs → lv_has ls 8 [(6, .int x6), (5, .int (bI x5)), (4, .int (f_X8_half r_this_bytes p2 p3 0)), (0, .ref a_this), (1, .ref a_this_two), (2, .int p2), (3, .int p3)] → f_X8_unpackB_L26 r_this_bytes p2 p3 fuel r_this_two_L26 x6 x5 = F → s_X8_unpackB_L26 r_this_bytes p2 p3 fuel r_this_two_L26 x6 x5 → W p l e ({ frames := 1, cells := 0, slots := 0, locals := 24 } : Room) s m ([.ref a_this, .ref a_this_two, .int p2, .int p3] : List Value).toArray below meth c H locs 0 0 Q (F0 m 26 ls []) := by
      intro fuel
      induction fuel with
      | zero => intro r_this_two_L26 x6 x5 H locs ls hm; exact absurd hm (Nat.not_lt_zero _)
      | succ fuel ih =>
        intro r_this_two_L26 x6 x5 H locs ls hm hv hP hD hS hl hF hs
        rw [f_X8_unpackB_L26] at hF
        rw [s_X8_unpackB_L26] at hs
        skip
        refine lv_iload hx hb dX8_unpack_26 (lv_at hl 0 rfl) ?_
        refine lv_bipush (v := 40) hx hb dX8_unpack_28 (by decide) ?_
        refine lv_icmp_ge (tgt := 110) hx hb dX8_unpack_30 (by decide) (fun c_5 => ?_) (fun c_5 => ?_)
        · skip
          rw [if_pos c_5] at hF
          rw [if_pos c_5] at hs
          refine lv_iload hx hb dX8_unpack_110 (lv_at hl 1 rfl) ?_
          exact hQ x5 (x5, r_this_two_L26) _ _ _ _ dX8_unpack_112 ⟨hF.symm, rfl⟩ hP hD hS
        · skip
          rw [if_neg c_5] at hF
          rw [if_neg c_5] at hs
          refine lv_iload hx hb dX8_unpack_33 (lv_at hl 0 rfl) ?_
          refine lv_iconst (v := 2) hx hb dX8_unpack_35 (by decide) ?_
          refine lv_iload_n hx hb dX8_unpack_36 rfl (lv_at hl 6 rfl) ?_
          refine lv_imul hx hb dX8_unpack_37 ?_
          refine lv_iconst (v := 1) hx hb dX8_unpack_38 (by decide) ?_
          refine lv_isub hx hb dX8_unpack_39 ?_
          refine lv_icmp_ge (tgt := 56) hx hb dX8_unpack_40 (by decide) (fun c_6 => ?_) (fun c_6 => ?_)
          · skip
            rw [if_pos c_6] at hF
            rw [if_pos c_6] at hs
            refine lv_iconst (v := 0) hx hb dX8_unpack_56 (by decide) ?_
            refine lv_istore (lv' := [(7, .int 0), (6, .int x6), (5, .int (bI x5)), (4, .int (f_X8_half r_this_bytes p2 p3 0)), (0, .ref a_this), (1, .ref a_this_two), (2, .int p2), (3, .int p3)]) hx hb dX8_unpack_57 hl (by decide) rfl (fun ls hl => ?_)
            refine lv_iload hx hb dX8_unpack_59 (lv_at hl 2 rfl) ?_
            refine lv_if_eq (tgt := 75) hx hb dX8_unpack_61 (by decide) (fun c_7 => ?_) (fun c_7 => ?_)
            · have c_7 : ¬ x5 = true := by rw [(bI_eq0 _).mp c_7]; decide
              rw [if_neg c_7] at hF
              rw [if_neg c_7] at hs
              refine lv_iconst (v := 0) hx hb dX8_unpack_75 (by decide) ?_
              refine lv_istore (lv' := [(5, .int 0), (7, .int 0), (6, .int x6), (4, .int (f_X8_half r_this_bytes p2 p3 0)), (0, .ref a_this), (1, .ref a_this_two), (2, .int p2), (3, .int p3)]) hx hb dX8_unpack_76 hl (by decide) rfl (fun ls hl => ?_)
              refine lv_aload_n hx hb dX8_unpack_78 rfl (lv_at hl 5 rfl) ?_
              refine lv_iload hx hb dX8_unpack_79 (lv_at hl 2 rfl) ?_
              refine lv_iload hx hb dX8_unpack_81 (lv_at hl 3 rfl) ?_
              refine lv_bipush (v := 11) hx hb dX8_unpack_83 (by decide) ?_
              refine lv_icmp_eq (tgt := 95) hx hb dX8_unpack_85 (by decide) (fun c_8 => ?_) (fun c_8 => ?_)
              · skip
                rw [if_pos c_8] at hF
                rw [if_pos c_8] at hs
                refine lv_iload hx hb dX8_unpack_95 (lv_at hl 1 rfl) ?_
                refine lv_ineg hx hb dX8_unpack_97 ?_
                refine lv_goto (tgt := 103) hx hb dX8_unpack_98 (by decide) ?_
                refine va_iast hx hb hK hP hD hS 2 1 rfl rfl (q_in hv c_5 (by decide)) dX8_unpack_103 (fun H locs hP hD hS => ?_)
                have hP : va_P D vwCl [(a_this, oX8 a_this_bytes a_this_keys a_this_reg a_this_card a_this_filled a_this_taken a_this_line a_this_one a_this_two o_this), (a_this_bytes, .inl (k_this_bytes, 2048, .inl r_this_bytes)), (a_this_two, .inl (k_this_two, 40, .inl (upd r_this_two_L26 x6.toNatClampNeg (-0))))] H := hP
                have hD : va_D A [(a_this, oX8 a_this_bytes a_this_keys a_this_reg a_this_card a_this_filled a_this_taken a_this_line a_this_one a_this_two o_this), (a_this_bytes, .inl (k_this_bytes, 2048, .inl r_this_bytes)), (a_this_two, .inl (k_this_two, 40, .inl (upd r_this_two_L26 x6.toNatClampNeg (-0))))] := hD
                refine lv_iinc (v := (x6 + (1 : Int32))) (lv' := [(6, .int (x6 + (1 : Int32))), (5, .int 0), (7, .int 0), (4, .int (f_X8_half r_this_bytes p2 p3 0)), (0, .ref a_this), (1, .ref a_this_two), (2, .int p2), (3, .int p3)]) hx hb dX8_unpack_104 hl (k := 2) rfl rfl (by decide) rfl (fun ls hl => ?_)
                refine lv_goto (tgt := 26) hx hb dX8_unpack_107 (by decide) ?_
                exact ih (upd r_this_two_L26 x6.toNatClampNeg (-0)) (x6 + (1 : Int32)) false _ _ _ (by first | exact q_up hm c_3 | exact q_up hm hv | exact q_up hm c_5 | exact q_up hm c_6 | exact q_up hm c_7 | exact q_up hm c_8) (by first | exact q_upnn hv c_3 | exact q_upnn hv hv | exact q_upnn hv c_5 | exact q_upnn hv c_6 | exact q_upnn hv c_7 | exact q_upnn hv c_8) hP hD hS (lv_sub hl [0, 1, 3, 4, 5, 6, 7] rfl) hF hs
              · skip
                rw [if_neg c_8] at hF
                rw [if_neg c_8] at hs
                refine lv_iload hx hb dX8_unpack_88 (lv_at hl 3 rfl) ?_
                refine lv_bipush (v := 13) hx hb dX8_unpack_90 (by decide) ?_
                refine lv_icmp_ne (tgt := 101) hx hb dX8_unpack_92 (by decide) (fun c_9 => ?_) (fun c_9 => ?_)
                · skip
                  rw [if_neg c_9] at hF
                  rw [if_neg c_9] at hs
                  refine lv_iload hx hb dX8_unpack_101 (lv_at hl 1 rfl) ?_
                  refine va_iast hx hb hK hP hD hS 2 1 rfl rfl (q_in hv c_5 (by decide)) dX8_unpack_103 (fun H locs hP hD hS => ?_)
                  have hP : va_P D vwCl [(a_this, oX8 a_this_bytes a_this_keys a_this_reg a_this_card a_this_filled a_this_taken a_this_line a_this_one a_this_two o_this), (a_this_bytes, .inl (k_this_bytes, 2048, .inl r_this_bytes)), (a_this_two, .inl (k_this_two, 40, .inl (upd r_this_two_L26 x6.toNatClampNeg 0)))] H := hP
                  have hD : va_D A [(a_this, oX8 a_this_bytes a_this_keys a_this_reg a_this_card a_this_filled a_this_taken a_this_line a_this_one a_this_two o_this), (a_this_bytes, .inl (k_this_bytes, 2048, .inl r_this_bytes)), (a_this_two, .inl (k_this_two, 40, .inl (upd r_this_two_L26 x6.toNatClampNeg 0)))] := hD
                  refine lv_iinc (v := (x6 + (1 : Int32))) (lv' := [(6, .int (x6 + (1 : Int32))), (5, .int 0), (7, .int 0), (4, .int (f_X8_half r_this_bytes p2 p3 0)), (0, .ref a_this), (1, .ref a_this_two), (2, .int p2), (3, .int p3)]) hx hb dX8_unpack_104 hl (k := 2) rfl rfl (by decide) rfl (fun ls hl => ?_)
                  refine lv_goto (tgt := 26) hx hb dX8_unpack_107 (by decide) ?_
                  exact ih (upd r_this_two_L26 x6.toNatClampNeg 0) (x6 + (1 : Int32)) false _ _ _ (by first | exact q_up hm c_3 | exact q_up hm hv | exact q_up hm c_5 | exact q_up hm c_6 | exact q_up hm c_7 | exact q_up hm c_8 | exact q_up hm c_9) (by first | exact q_upnn hv c_3 | exact q_upnn hv hv | exact q_upnn hv c_5 | exact q_upnn hv c_6 | exact q_upnn hv c_7 | exact q_upnn hv c_8 | exact q_upnn hv c_9) hP hD hS (lv_sub hl [0, 1, 3, 4, 5, 6, 7] rfl) hF hs
                · skip
                  rw [if_pos c_9] at hF
                  rw [if_pos c_9] at hs
                  refine lv_iload hx hb dX8_unpack_95 (lv_at hl 1 rfl) ?_
                  refine lv_ineg hx hb dX8_unpack_97 ?_
                  refine lv_goto (tgt := 103) hx hb dX8_unpack_98 (by decide) ?_
                  refine va_iast hx hb hK hP hD hS 2 1 rfl rfl (q_in hv c_5 (by decide)) dX8_unpack_103 (fun H locs hP hD hS => ?_)
                  have hP : va_P D vwCl [(a_this, oX8 a_this_bytes a_this_keys a_this_reg a_this_card a_this_filled a_this_taken a_this_line a_this_one a_this_two o_this), (a_this_bytes, .inl (k_this_bytes, 2048, .inl r_this_bytes)), (a_this_two, .inl (k_this_two, 40, .inl (upd r_this_two_L26 x6.toNatClampNeg (-0))))] H := hP
                  have hD : va_D A [(a_this, oX8 a_this_bytes a_this_keys a_this_reg a_this_card a_this_filled a_this_taken a_this_line a_this_one a_this_two o_this), (a_this_bytes, .inl (k_this_bytes, 2048, .inl r_this_bytes)), (a_this_two, .inl (k_this_two, 40, .inl (upd r_this_two_L26 x6.toNatClampNeg (-0))))] := hD
                  refine lv_iinc (v := (x6 + (1 : Int32))) (lv' := [(6, .int (x6 + (1 : Int32))), (5, .int 0), (7, .int 0), (4, .int (f_X8_half r_this_bytes p2 p3 0)), (0, .ref a_this), (1, .ref a_this_two), (2, .int p2), (3, .int p3)]) hx hb dX8_unpack_104 hl (k := 2) rfl rfl (by decide) rfl (fun ls hl => ?_)
                  refine lv_goto (tgt := 26) hx hb dX8_unpack_107 (by decide) ?_
                  exact ih (upd r_this_two_L26 x6.toNatClampNeg (-0)) (x6 + (1 : Int32)) false _ _ _ (by first | exact q_up hm c_3 | exact q_up hm hv | exact q_up hm c_5 | exact q_up hm c_6 | exact q_up hm c_7 | exact q_up hm c_8 | exact q_up hm c_9) (by first | exact q_upnn hv c_3 | exact q_upnn hv hv | exact q_upnn hv c_5 | exact q_upnn hv c_6 | exact q_upnn hv c_7 | exact q_upnn hv c_8 | exact q_upnn hv c_9) hP hD hS (lv_sub hl [0, 1, 3, 4, 5, 6, 7] rfl) hF hs
            · have c_7 := (bI_ne0 _).mp c_7
              rw [if_pos c_7] at hF
              rw [if_pos c_7] at hs
              refine lv_iload hx hb dX8_unpack_64 (lv_at hl 0 rfl) ?_
              refine lv_bipush (v := 10) hx hb dX8_unpack_66 (by decide) ?_
              refine lv_icmp_ge (tgt := 75) hx hb dX8_unpack_68 (by decide) (fun c_10 => ?_) (fun c_10 => ?_)
              · exact absurd c_10 (by decide)
              · skip
                refine lv_iconst (v := 1) hx hb dX8_unpack_71 (by decide) ?_
                refine lv_goto (tgt := 76) hx hb dX8_unpack_72 (by decide) ?_
                refine lv_istore (lv' := [(5, .int 1), (7, .int 0), (6, .int x6), (4, .int (f_X8_half r_this_bytes p2 p3 0)), (0, .ref a_this), (1, .ref a_this_two), (2, .int p2), (3, .int p3)]) hx hb dX8_unpack_76 hl (by decide) rfl (fun ls hl => ?_)
                refine lv_aload_n hx hb dX8_unpack_78 rfl (lv_at hl 5 rfl) ?_
                refine lv_iload hx hb dX8_unpack_79 (lv_at hl 2 rfl) ?_
                refine lv_iload hx hb dX8_unpack_81 (lv_at hl 3 rfl) ?_
                refine lv_bipush (v := 11) hx hb dX8_unpack_83 (by decide) ?_
                refine lv_icmp_eq (tgt := 95) hx hb dX8_unpack_85 (by decide) (fun c_11 => ?_) (fun c_11 => ?_)
                · skip
                  rw [if_pos c_11] at hF
                  rw [if_pos c_11] at hs
                  refine lv_iload hx hb dX8_unpack_95 (lv_at hl 1 rfl) ?_
                  refine lv_ineg hx hb dX8_unpack_97 ?_
                  refine lv_goto (tgt := 103) hx hb dX8_unpack_98 (by decide) ?_
                  refine va_iast hx hb hK hP hD hS 2 1 rfl rfl (q_in hv c_5 (by decide)) dX8_unpack_103 (fun H locs hP hD hS => ?_)
                  have hP : va_P D vwCl [(a_this, oX8 a_this_bytes a_this_keys a_this_reg a_this_card a_this_filled a_this_taken a_this_line a_this_one a_this_two o_this), (a_this_bytes, .inl (k_this_bytes, 2048, .inl r_this_bytes)), (a_this_two, .inl (k_this_two, 40, .inl (upd r_this_two_L26 x6.toNatClampNeg (-0))))] H := hP
                  have hD : va_D A [(a_this, oX8 a_this_bytes a_this_keys a_this_reg a_this_card a_this_filled a_this_taken a_this_line a_this_one a_this_two o_this), (a_this_bytes, .inl (k_this_bytes, 2048, .inl r_this_bytes)), (a_this_two, .inl (k_this_two, 40, .inl (upd r_this_two_L26 x6.toNatClampNeg (-0))))] := hD
                  refine lv_iinc (v := (x6 + (1 : Int32))) (lv' := [(6, .int (x6 + (1 : Int32))), (5, .int 1), (7, .int 0), (4, .int (f_X8_half r_this_bytes p2 p3 0)), (0, .ref a_this), (1, .ref a_this_two), (2, .int p2), (3, .int p3)]) hx hb dX8_unpack_104 hl (k := 2) rfl rfl (by decide) rfl (fun ls hl => ?_)
                  refine lv_goto (tgt := 26) hx hb dX8_unpack_107 (by decide) ?_
                  exact ih (upd r_this_two_L26 x6.toNatClampNeg (-0)) (x6 + (1 : Int32)) true _ _ _ (by first | exact q_up hm c_3 | exact q_up hm hv | exact q_up hm c_5 | exact q_up hm c_6 | exact q_up hm c_7 | exact q_up hm c_11) (by first | exact q_upnn hv c_3 | exact q_upnn hv hv | exact q_upnn hv c_5 | exact q_upnn hv c_6 | exact q_upnn hv c_7 | exact q_upnn hv c_11) hP hD hS (lv_sub hl [0, 1, 3, 4, 5, 6, 7] rfl) hF hs
                · skip
                  rw [if_neg c_11] at hF
                  rw [if_neg c_11] at hs
                  refine lv_iload hx hb dX8_unpack_88 (lv_at hl 3 rfl) ?_
                  refine lv_bipush (v := 13) hx hb dX8_unpack_90 (by decide) ?_
                  refine lv_icmp_ne (tgt := 101) hx hb dX8_unpack_92 (by decide) (fun c_12 => ?_) (fun c_12 => ?_)
                  · skip
                    rw [if_neg c_12] at hF
                    rw [if_neg c_12] at hs
                    refine lv_iload hx hb dX8_unpack_101 (lv_at hl 1 rfl) ?_
                    refine va_iast hx hb hK hP hD hS 2 1 rfl rfl (q_in hv c_5 (by decide)) dX8_unpack_103 (fun H locs hP hD hS => ?_)
                    have hP : va_P D vwCl [(a_this, oX8 a_this_bytes a_this_keys a_this_reg a_this_card a_this_filled a_this_taken a_this_line a_this_one a_this_two o_this), (a_this_bytes, .inl (k_this_bytes, 2048, .inl r_this_bytes)), (a_this_two, .inl (k_this_two, 40, .inl (upd r_this_two_L26 x6.toNatClampNeg 0)))] H := hP
                    have hD : va_D A [(a_this, oX8 a_this_bytes a_this_keys a_this_reg a_this_card a_this_filled a_this_taken a_this_line a_this_one a_this_two o_this), (a_this_bytes, .inl (k_this_bytes, 2048, .inl r_this_bytes)), (a_this_two, .inl (k_this_two, 40, .inl (upd r_this_two_L26 x6.toNatClampNeg 0)))] := hD
                    refine lv_iinc (v := (x6 + (1 : Int32))) (lv' := [(6, .int (x6 + (1 : Int32))), (5, .int 1), (7, .int 0), (4, .int (f_X8_half r_this_bytes p2 p3 0)), (0, .ref a_this), (1, .ref a_this_two), (2, .int p2), (3, .int p3)]) hx hb dX8_unpack_104 hl (k := 2) rfl rfl (by decide) rfl (fun ls hl => ?_)
                    refine lv_goto (tgt := 26) hx hb dX8_unpack_107 (by decide) ?_
                    exact ih (upd r_this_two_L26 x6.toNatClampNeg 0) (x6 + (1 : Int32)) true _ _ _ (by first | exact q_up hm c_3 | exact q_up hm hv | exact q_up hm c_5 | exact q_up hm c_6 | exact q_up hm c_7 | exact q_up hm c_11 | exact q_up hm c_12) (by first | exact q_upnn hv c_3 | exact q_upnn hv hv | exact q_upnn hv c_5 | exact q_upnn hv c_6 | exact q_upnn hv c_7 | exact q_upnn hv c_11 | exact q_upnn hv c_12) hP hD hS (lv_sub hl [0, 1, 3, 4, 5, 6, 7] rfl) hF hs
                  · skip
                    rw [if_pos c_12] at hF
                    rw [if_pos c_12] at hs
                    refine lv_iload hx hb dX8_unpack_95 (lv_at hl 1 rfl) ?_
                    refine lv_ineg hx hb dX8_unpack_97 ?_
                    refine lv_goto (tgt := 103) hx hb dX8_unpack_98 (by decide) ?_
                    refine va_iast hx hb hK hP hD hS 2 1 rfl rfl (q_in hv c_5 (by decide)) dX8_unpack_103 (fun H locs hP hD hS => ?_)
                    have hP : va_P D vwCl [(a_this, oX8 a_this_bytes a_this_keys a_this_reg a_this_card a_this_filled a_this_taken a_this_line a_this_one a_this_two o_this), (a_this_bytes, .inl (k_this_bytes, 2048, .inl r_this_bytes)), (a_this_two, .inl (k_this_two, 40, .inl (upd r_this_two_L26 x6.toNatClampNeg (-0))))] H := hP
                    have hD : va_D A [(a_this, oX8 a_this_bytes a_this_keys a_this_reg a_this_card a_this_filled a_this_taken a_this_line a_this_one a_this_two o_this), (a_this_bytes, .inl (k_this_bytes, 2048, .inl r_this_bytes)), (a_this_two, .inl (k_this_two, 40, .inl (upd r_this_two_L26 x6.toNatClampNeg (-0))))] := hD
                    refine lv_iinc (v := (x6 + (1 : Int32))) (lv' := [(6, .int (x6 + (1 : Int32))), (5, .int 1), (7, .int 0), (4, .int (f_X8_half r_this_bytes p2 p3 0)), (0, .ref a_this), (1, .ref a_this_two), (2, .int p2), (3, .int p3)]) hx hb dX8_unpack_104 hl (k := 2) rfl rfl (by decide) rfl (fun ls hl => ?_)
                    refine lv_goto (tgt := 26) hx hb dX8_unpack_107 (by decide) ?_
                    exact ih (upd r_this_two_L26 x6.toNatClampNeg (-0)) (x6 + (1 : Int32)) true _ _ _ (by first | exact q_up hm c_3 | exact q_up hm hv | exact q_up hm c_5 | exact q_up hm c_6 | exact q_up hm c_7 | exact q_up hm c_11 | exact q_up hm c_12) (by first | exact q_upnn hv c_3 | exact q_upnn hv hv | exact q_upnn hv c_5 | exact q_upnn hv c_6 | exact q_upnn hv c_7 | exact q_upnn hv c_11 | exact q_upnn hv c_12) hP hD hS (lv_sub hl [0, 1, 3, 4, 5, 6, 7] rfl) hF hs
          · skip
            rw [if_neg c_6] at hF
            rw [if_neg c_6] at hs
            refine lv_aload_n hx hb dX8_unpack_43 rfl (lv_at hl 3 rfl) ?_
            refine lv_iload_n hx hb dX8_unpack_44 rfl (lv_at hl 5 rfl) ?_
            refine lv_iload_n hx hb dX8_unpack_45 rfl (lv_at hl 6 rfl) ?_
            refine lv_iload hx hb dX8_unpack_46 (lv_at hl 0 rfl) ?_
            refine lv_iconst (v := 1) hx hb dX8_unpack_48 (by decide) ?_
            refine lv_iadd hx hb dX8_unpack_49 ?_
            obtain ⟨hi_13, hs⟩ := hs
            refine q_Vi (rest := []) (c_X8_half l D a_this a_this_bytes a_this_keys a_this_reg a_this_card a_this_filled a_this_taken a_this_line a_this_one a_this_two k_this_bytes o_this r_this_bytes p2 p3 (x6 + (1 : Int32)) hi_13) cv_X8_half hx hb hml hown ht hN hK hA hP hD hS hl.1 (km_X8_203) ⟨Nat.le_of_ble_eq_true rfl, Nat.le_of_ble_eq_true rfl⟩ rfl rfl [0, 1] (by decide) rfl [0] rfl (fun _ => rfl) (ci := 8) rfl rfl rfl rfl rfl (Nat.le_of_ble_eq_true rfl) dX8_unpack_50 ⟨Nat.zero_le _, Nat.zero_le _⟩ (fun r u H locs hw hP hD hS => ?_)
            obtain ⟨rfl, rfl⟩ := hw
            have hP : va_P D vwCl [(a_this, oX8 a_this_bytes a_this_keys a_this_reg a_this_card a_this_filled a_this_taken a_this_line a_this_one a_this_two o_this), (a_this_bytes, .inl (k_this_bytes, 2048, .inl r_this_bytes)), (a_this_two, .inl (k_this_two, 40, .inl r_this_two_L26))] H := hP
            have hD : va_D A [(a_this, oX8 a_this_bytes a_this_keys a_this_reg a_this_card a_this_filled a_this_taken a_this_line a_this_one a_this_two o_this), (a_this_bytes, .inl (k_this_bytes, 2048, .inl r_this_bytes)), (a_this_two, .inl (k_this_two, 40, .inl r_this_two_L26))] := hD
            refine lv_goto (tgt := 57) hx hb dX8_unpack_53 (by decide) ?_
            refine lv_istore (lv' := [(7, .int (f_X8_half r_this_bytes p2 p3 (x6 + (1 : Int32)))), (6, .int x6), (5, .int (bI x5)), (4, .int (f_X8_half r_this_bytes p2 p3 0)), (0, .ref a_this), (1, .ref a_this_two), (2, .int p2), (3, .int p3)]) hx hb dX8_unpack_57 hl (by decide) rfl (fun ls hl => ?_)
            refine lv_iload hx hb dX8_unpack_59 (lv_at hl 2 rfl) ?_
            refine lv_if_eq (tgt := 75) hx hb dX8_unpack_61 (by decide) (fun c_15 => ?_) (fun c_15 => ?_)
            · have c_15 : ¬ x5 = true := by rw [(bI_eq0 _).mp c_15]; decide
              rw [if_neg c_15] at hF
              rw [if_neg c_15] at hs
              refine lv_iconst (v := 0) hx hb dX8_unpack_75 (by decide) ?_
              refine lv_istore (lv' := [(5, .int 0), (7, .int (f_X8_half r_this_bytes p2 p3 (x6 + (1 : Int32)))), (6, .int x6), (4, .int (f_X8_half r_this_bytes p2 p3 0)), (0, .ref a_this), (1, .ref a_this_two), (2, .int p2), (3, .int p3)]) hx hb dX8_unpack_76 hl (by decide) rfl (fun ls hl => ?_)
              refine lv_aload_n hx hb dX8_unpack_78 rfl (lv_at hl 5 rfl) ?_
              refine lv_iload hx hb dX8_unpack_79 (lv_at hl 2 rfl) ?_
              refine lv_iload hx hb dX8_unpack_81 (lv_at hl 3 rfl) ?_
              refine lv_bipush (v := 11) hx hb dX8_unpack_83 (by decide) ?_
              refine lv_icmp_eq (tgt := 95) hx hb dX8_unpack_85 (by decide) (fun c_16 => ?_) (fun c_16 => ?_)
              · skip
                rw [if_pos c_16] at hF
                rw [if_pos c_16] at hs
                refine lv_iload hx hb dX8_unpack_95 (lv_at hl 1 rfl) ?_
                refine lv_ineg hx hb dX8_unpack_97 ?_
                refine lv_goto (tgt := 103) hx hb dX8_unpack_98 (by decide) ?_
                refine va_iast hx hb hK hP hD hS 2 1 rfl rfl (q_in hv c_5 (by decide)) dX8_unpack_103 (fun H locs hP hD hS => ?_)
                have hP : va_P D vwCl [(a_this, oX8 a_this_bytes a_this_keys a_this_reg a_this_card a_this_filled a_this_taken a_this_line a_this_one a_this_two o_this), (a_this_bytes, .inl (k_this_bytes, 2048, .inl r_this_bytes)), (a_this_two, .inl (k_this_two, 40, .inl (upd r_this_two_L26 x6.toNatClampNeg (-(f_X8_half r_this_bytes p2 p3 (x6 + (1 : Int32)))))))] H := hP
                have hD : va_D A [(a_this, oX8 a_this_bytes a_this_keys a_this_reg a_this_card a_this_filled a_this_taken a_this_line a_this_one a_this_two o_this), (a_this_bytes, .inl (k_this_bytes, 2048, .inl r_this_bytes)), (a_this_two, .inl (k_this_two, 40, .inl (upd r_this_two_L26 x6.toNatClampNeg (-(f_X8_half r_this_bytes p2 p3 (x6 + (1 : Int32)))))))] := hD
                refine lv_iinc (v := (x6 + (1 : Int32))) (lv' := [(6, .int (x6 + (1 : Int32))), (5, .int 0), (7, .int (f_X8_half r_this_bytes p2 p3 (x6 + (1 : Int32)))), (4, .int (f_X8_half r_this_bytes p2 p3 0)), (0, .ref a_this), (1, .ref a_this_two), (2, .int p2), (3, .int p3)]) hx hb dX8_unpack_104 hl (k := 2) rfl rfl (by decide) rfl (fun ls hl => ?_)
                refine lv_goto (tgt := 26) hx hb dX8_unpack_107 (by decide) ?_
                exact ih (upd r_this_two_L26 x6.toNatClampNeg (-(f_X8_half r_this_bytes p2 p3 (x6 + (1 : Int32))))) (x6 + (1 : Int32)) false _ _ _ (by first | exact q_up hm c_3 | exact q_up hm hv | exact q_up hm c_5 | exact q_up hm c_6 | exact q_up hm c_15 | exact q_up hm c_16) (by first | exact q_upnn hv c_3 | exact q_upnn hv hv | exact q_upnn hv c_5 | exact q_upnn hv c_6 | exact q_upnn hv c_15 | exact q_upnn hv c_16) hP hD hS (lv_sub hl [0, 1, 3, 4, 5, 6, 7] rfl) hF hs
              · skip
                rw [if_neg c_16] at hF
                rw [if_neg c_16] at hs
                refine lv_iload hx hb dX8_unpack_88 (lv_at hl 3 rfl) ?_
                refine lv_bipush (v := 13) hx hb dX8_unpack_90 (by decide) ?_
                refine lv_icmp_ne (tgt := 101) hx hb dX8_unpack_92 (by decide) (fun c_17 => ?_) (fun c_17 => ?_)
                · skip
                  rw [if_neg c_17] at hF
                  rw [if_neg c_17] at hs
                  refine lv_iload hx hb dX8_unpack_101 (lv_at hl 1 rfl) ?_
                  refine va_iast hx hb hK hP hD hS 2 1 rfl rfl (q_in hv c_5 (by decide)) dX8_unpack_103 (fun H locs hP hD hS => ?_)
                  have hP : va_P D vwCl [(a_this, oX8 a_this_bytes a_this_keys a_this_reg a_this_card a_this_filled a_this_taken a_this_line a_this_one a_this_two o_this), (a_this_bytes, .inl (k_this_bytes, 2048, .inl r_this_bytes)), (a_this_two, .inl (k_this_two, 40, .inl (upd r_this_two_L26 x6.toNatClampNeg (f_X8_half r_this_bytes p2 p3 (x6 + (1 : Int32))))))] H := hP
                  have hD : va_D A [(a_this, oX8 a_this_bytes a_this_keys a_this_reg a_this_card a_this_filled a_this_taken a_this_line a_this_one a_this_two o_this), (a_this_bytes, .inl (k_this_bytes, 2048, .inl r_this_bytes)), (a_this_two, .inl (k_this_two, 40, .inl (upd r_this_two_L26 x6.toNatClampNeg (f_X8_half r_this_bytes p2 p3 (x6 + (1 : Int32))))))] := hD
                  refine lv_iinc (v := (x6 + (1 : Int32))) (lv' := [(6, .int (x6 + (1 : Int32))), (5, .int 0), (7, .int (f_X8_half r_this_bytes p2 p3 (x6 + (1 : Int32)))), (4, .int (f_X8_half r_this_bytes p2 p3 0)), (0, .ref a_this), (1, .ref a_this_two), (2, .int p2), (3, .int p3)]) hx hb dX8_unpack_104 hl (k := 2) rfl rfl (by decide) rfl (fun ls hl => ?_)
                  refine lv_goto (tgt := 26) hx hb dX8_unpack_107 (by decide) ?_
                  exact ih (upd r_this_two_L26 x6.toNatClampNeg (f_X8_half r_this_bytes p2 p3 (x6 + (1 : Int32)))) (x6 + (1 : Int32)) false _ _ _ (by first | exact q_up hm c_3 | exact q_up hm hv | exact q_up hm c_5 | exact q_up hm c_6 | exact q_up hm c_15 | exact q_up hm c_16 | exact q_up hm c_17) (by first | exact q_upnn hv c_3 | exact q_upnn hv hv | exact q_upnn hv c_5 | exact q_upnn hv c_6 | exact q_upnn hv c_15 | exact q_upnn hv c_16 | exact q_upnn hv c_17) hP hD hS (lv_sub hl [0, 1, 3, 4, 5, 6, 7] rfl) hF hs
                · skip
                  rw [if_pos c_17] at hF
                  rw [if_pos c_17] at hs
                  refine lv_iload hx hb dX8_unpack_95 (lv_at hl 1 rfl) ?_
                  refine lv_ineg hx hb dX8_unpack_97 ?_
                  refine lv_goto (tgt := 103) hx hb dX8_unpack_98 (by decide) ?_
                  refine va_iast hx hb hK hP hD hS 2 1 rfl rfl (q_in hv c_5 (by decide)) dX8_unpack_103 (fun H locs hP hD hS => ?_)
                  have hP : va_P D vwCl [(a_this, oX8 a_this_bytes a_this_keys a_this_reg a_this_card a_this_filled a_this_taken a_this_line a_this_one a_this_two o_this), (a_this_bytes, .inl (k_this_bytes, 2048, .inl r_this_bytes)), (a_this_two, .inl (k_this_two, 40, .inl (upd r_this_two_L26 x6.toNatClampNeg (-(f_X8_half r_this_bytes p2 p3 (x6 + (1 : Int32)))))))] H := hP
                  have hD : va_D A [(a_this, oX8 a_this_bytes a_this_keys a_this_reg a_this_card a_this_filled a_this_taken a_this_line a_this_one a_this_two o_this), (a_this_bytes, .inl (k_this_bytes, 2048, .inl r_this_bytes)), (a_this_two, .inl (k_this_two, 40, .inl (upd r_this_two_L26 x6.toNatClampNeg (-(f_X8_half r_this_bytes p2 p3 (x6 + (1 : Int32)))))))] := hD
                  refine lv_iinc (v := (x6 + (1 : Int32))) (lv' := [(6, .int (x6 + (1 : Int32))), (5, .int 0), (7, .int (f_X8_half r_this_bytes p2 p3 (x6 + (1 : Int32)))), (4, .int (f_X8_half r_this_bytes p2 p3 0)), (0, .ref a_this), (1, .ref a_this_two), (2, .int p2), (3, .int p3)]) hx hb dX8_unpack_104 hl (k := 2) rfl rfl (by decide) rfl (fun ls hl => ?_)
                  refine lv_goto (tgt := 26) hx hb dX8_unpack_107 (by decide) ?_
                  exact ih (upd r_this_two_L26 x6.toNatClampNeg (-(f_X8_half r_this_bytes p2 p3 (x6 + (1 : Int32))))) (x6 + (1 : Int32)) false _ _ _ (by first | exact q_up hm c_3 | exact q_up hm hv | exact q_up hm c_5 | exact q_up hm c_6 | exact q_up hm c_15 | exact q_up hm c_16 | exact q_up hm c_17) (by first | exact q_upnn hv c_3 | exact q_upnn hv hv | exact q_upnn hv c_5 | exact q_upnn hv c_6 | exact q_upnn hv c_15 | exact q_upnn hv c_16 | exact q_upnn hv c_17) hP hD hS (lv_sub hl [0, 1, 3, 4, 5, 6, 7] rfl) hF hs
            · have c_15 := (bI_ne0 _).mp c_15
              rw [if_pos c_15] at hF
              rw [if_pos c_15] at hs
              refine lv_iload hx hb dX8_unpack_64 (lv_at hl 0 rfl) ?_
              refine lv_bipush (v := 10) hx hb dX8_unpack_66 (by decide) ?_
              refine lv_icmp_ge (tgt := 75) hx hb dX8_unpack_68 (by decide) (fun c_18 => ?_) (fun c_18 => ?_)
              · skip
                rw [if_pos c_18] at hF
                rw [if_pos c_18] at hs
                refine lv_iconst (v := 0) hx hb dX8_unpack_75 (by decide) ?_
                refine lv_istore (lv' := [(5, .int 0), (7, .int (f_X8_half r_this_bytes p2 p3 (x6 + (1 : Int32)))), (6, .int x6), (4, .int (f_X8_half r_this_bytes p2 p3 0)), (0, .ref a_this), (1, .ref a_this_two), (2, .int p2), (3, .int p3)]) hx hb dX8_unpack_76 hl (by decide) rfl (fun ls hl => ?_)
                refine lv_aload_n hx hb dX8_unpack_78 rfl (lv_at hl 5 rfl) ?_
                refine lv_iload hx hb dX8_unpack_79 (lv_at hl 2 rfl) ?_
                refine lv_iload hx hb dX8_unpack_81 (lv_at hl 3 rfl) ?_
                refine lv_bipush (v := 11) hx hb dX8_unpack_83 (by decide) ?_
                refine lv_icmp_eq (tgt := 95) hx hb dX8_unpack_85 (by decide) (fun c_19 => ?_) (fun c_19 => ?_)
                · skip
                  rw [if_pos c_19] at hF
                  rw [if_pos c_19] at hs
                  refine lv_iload hx hb dX8_unpack_95 (lv_at hl 1 rfl) ?_
                  refine lv_ineg hx hb dX8_unpack_97 ?_
                  refine lv_goto (tgt := 103) hx hb dX8_unpack_98 (by decide) ?_
                  refine va_iast hx hb hK hP hD hS 2 1 rfl rfl (q_in hv c_5 (by decide)) dX8_unpack_103 (fun H locs hP hD hS => ?_)
                  have hP : va_P D vwCl [(a_this, oX8 a_this_bytes a_this_keys a_this_reg a_this_card a_this_filled a_this_taken a_this_line a_this_one a_this_two o_this), (a_this_bytes, .inl (k_this_bytes, 2048, .inl r_this_bytes)), (a_this_two, .inl (k_this_two, 40, .inl (upd r_this_two_L26 x6.toNatClampNeg (-(f_X8_half r_this_bytes p2 p3 (x6 + (1 : Int32)))))))] H := hP
                  have hD : va_D A [(a_this, oX8 a_this_bytes a_this_keys a_this_reg a_this_card a_this_filled a_this_taken a_this_line a_this_one a_this_two o_this), (a_this_bytes, .inl (k_this_bytes, 2048, .inl r_this_bytes)), (a_this_two, .inl (k_this_two, 40, .inl (upd r_this_two_L26 x6.toNatClampNeg (-(f_X8_half r_this_bytes p2 p3 (x6 + (1 : Int32)))))))] := hD
                  refine lv_iinc (v := (x6 + (1 : Int32))) (lv' := [(6, .int (x6 + (1 : Int32))), (5, .int 0), (7, .int (f_X8_half r_this_bytes p2 p3 (x6 + (1 : Int32)))), (4, .int (f_X8_half r_this_bytes p2 p3 0)), (0, .ref a_this), (1, .ref a_this_two), (2, .int p2), (3, .int p3)]) hx hb dX8_unpack_104 hl (k := 2) rfl rfl (by decide) rfl (fun ls hl => ?_)
                  refine lv_goto (tgt := 26) hx hb dX8_unpack_107 (by decide) ?_
                  exact ih (upd r_this_two_L26 x6.toNatClampNeg (-(f_X8_half r_this_bytes p2 p3 (x6 + (1 : Int32))))) (x6 + (1 : Int32)) false _ _ _ (by first | exact q_up hm c_3 | exact q_up hm hv | exact q_up hm c_5 | exact q_up hm c_6 | exact q_up hm c_15 | exact q_up hm c_18 | exact q_up hm c_19) (by first | exact q_upnn hv c_3 | exact q_upnn hv hv | exact q_upnn hv c_5 | exact q_upnn hv c_6 | exact q_upnn hv c_15 | exact q_upnn hv c_18 | exact q_upnn hv c_19) hP hD hS (lv_sub hl [0, 1, 3, 4, 5, 6, 7] rfl) hF hs
                · skip
                  rw [if_neg c_19] at hF
                  rw [if_neg c_19] at hs
                  refine lv_iload hx hb dX8_unpack_88 (lv_at hl 3 rfl) ?_
                  refine lv_bipush (v := 13) hx hb dX8_unpack_90 (by decide) ?_
                  refine lv_icmp_ne (tgt := 101) hx hb dX8_unpack_92 (by decide) (fun c_20 => ?_) (fun c_20 => ?_)
                  · skip
                    rw [if_neg c_20] at hF
                    rw [if_neg c_20] at hs
                    refine lv_iload hx hb dX8_unpack_101 (lv_at hl 1 rfl) ?_
                    refine va_iast hx hb hK hP hD hS 2 1 rfl rfl (q_in hv c_5 (by decide)) dX8_unpack_103 (fun H locs hP hD hS => ?_)
                    have hP : va_P D vwCl [(a_this, oX8 a_this_bytes a_this_keys a_this_reg a_this_card a_this_filled a_this_taken a_this_line a_this_one a_this_two o_this), (a_this_bytes, .inl (k_this_bytes, 2048, .inl r_this_bytes)), (a_this_two, .inl (k_this_two, 40, .inl (upd r_this_two_L26 x6.toNatClampNeg (f_X8_half r_this_bytes p2 p3 (x6 + (1 : Int32))))))] H := hP
                    have hD : va_D A [(a_this, oX8 a_this_bytes a_this_keys a_this_reg a_this_card a_this_filled a_this_taken a_this_line a_this_one a_this_two o_this), (a_this_bytes, .inl (k_this_bytes, 2048, .inl r_this_bytes)), (a_this_two, .inl (k_this_two, 40, .inl (upd r_this_two_L26 x6.toNatClampNeg (f_X8_half r_this_bytes p2 p3 (x6 + (1 : Int32))))))] := hD
                    refine lv_iinc (v := (x6 + (1 : Int32))) (lv' := [(6, .int (x6 + (1 : Int32))), (5, .int 0), (7, .int (f_X8_half r_this_bytes p2 p3 (x6 + (1 : Int32)))), (4, .int (f_X8_half r_this_bytes p2 p3 0)), (0, .ref a_this), (1, .ref a_this_two), (2, .int p2), (3, .int p3)]) hx hb dX8_unpack_104 hl (k := 2) rfl rfl (by decide) rfl (fun ls hl => ?_)
                    refine lv_goto (tgt := 26) hx hb dX8_unpack_107 (by decide) ?_
                    exact ih (upd r_this_two_L26 x6.toNatClampNeg (f_X8_half r_this_bytes p2 p3 (x6 + (1 : Int32)))) (x6 + (1 : Int32)) false _ _ _ (by first | exact q_up hm c_3 | exact q_up hm hv | exact q_up hm c_5 | exact q_up hm c_6 | exact q_up hm c_15 | exact q_up hm c_18 | exact q_up hm c_19 | exact q_up hm c_20) (by first | exact q_upnn hv c_3 | exact q_upnn hv hv | exact q_upnn hv c_5 | exact q_upnn hv c_6 | exact q_upnn hv c_15 | exact q_upnn hv c_18 | exact q_upnn hv c_19 | exact q_upnn hv c_20) hP hD hS (lv_sub hl [0, 1, 3, 4, 5, 6, 7] rfl) hF hs
                  · skip
                    rw [if_pos c_20] at hF
                    rw [if_pos c_20] at hs
                    refine lv_iload hx hb dX8_unpack_95 (lv_at hl 1 rfl) ?_
                    refine lv_ineg hx hb dX8_unpack_97 ?_
                    refine lv_goto (tgt := 103) hx hb dX8_unpack_98 (by decide) ?_
                    refine va_iast hx hb hK hP hD hS 2 1 rfl rfl (q_in hv c_5 (by decide)) dX8_unpack_103 (fun H locs hP hD hS => ?_)
                    have hP : va_P D vwCl [(a_this, oX8 a_this_bytes a_this_keys a_this_reg a_this_card a_this_filled a_this_taken a_this_line a_this_one a_this_two o_this), (a_this_bytes, .inl (k_this_bytes, 2048, .inl r_this_bytes)), (a_this_two, .inl (k_this_two, 40, .inl (upd r_this_two_L26 x6.toNatClampNeg (-(f_X8_half r_this_bytes p2 p3 (x6 + (1 : Int32)))))))] H := hP
                    have hD : va_D A [(a_this, oX8 a_this_bytes a_this_keys a_this_reg a_this_card a_this_filled a_this_taken a_this_line a_this_one a_this_two o_this), (a_this_bytes, .inl (k_this_bytes, 2048, .inl r_this_bytes)), (a_this_two, .inl (k_this_two, 40, .inl (upd r_this_two_L26 x6.toNatClampNeg (-(f_X8_half r_this_bytes p2 p3 (x6 + (1 : Int32)))))))] := hD
                    refine lv_iinc (v := (x6 + (1 : Int32))) (lv' := [(6, .int (x6 + (1 : Int32))), (5, .int 0), (7, .int (f_X8_half r_this_bytes p2 p3 (x6 + (1 : Int32)))), (4, .int (f_X8_half r_this_bytes p2 p3 0)), (0, .ref a_this), (1, .ref a_this_two), (2, .int p2), (3, .int p3)]) hx hb dX8_unpack_104 hl (k := 2) rfl rfl (by decide) rfl (fun ls hl => ?_)
                    refine lv_goto (tgt := 26) hx hb dX8_unpack_107 (by decide) ?_
                    exact ih (upd r_this_two_L26 x6.toNatClampNeg (-(f_X8_half r_this_bytes p2 p3 (x6 + (1 : Int32))))) (x6 + (1 : Int32)) false _ _ _ (by first | exact q_up hm c_3 | exact q_up hm hv | exact q_up hm c_5 | exact q_up hm c_6 | exact q_up hm c_15 | exact q_up hm c_18 | exact q_up hm c_19 | exact q_up hm c_20) (by first | exact q_upnn hv c_3 | exact q_upnn hv hv | exact q_upnn hv c_5 | exact q_upnn hv c_6 | exact q_upnn hv c_15 | exact q_upnn hv c_18 | exact q_upnn hv c_19 | exact q_upnn hv c_20) hP hD hS (lv_sub hl [0, 1, 3, 4, 5, 6, 7] rfl) hF hs
              · skip
                rw [if_neg c_18] at hF
                rw [if_neg c_18] at hs
                refine lv_iconst (v := 1) hx hb dX8_unpack_71 (by decide) ?_
                refine lv_goto (tgt := 76) hx hb dX8_unpack_72 (by decide) ?_
                refine lv_istore (lv' := [(5, .int 1), (7, .int (f_X8_half r_this_bytes p2 p3 (x6 + (1 : Int32)))), (6, .int x6), (4, .int (f_X8_half r_this_bytes p2 p3 0)), (0, .ref a_this), (1, .ref a_this_two), (2, .int p2), (3, .int p3)]) hx hb dX8_unpack_76 hl (by decide) rfl (fun ls hl => ?_)
                refine lv_aload_n hx hb dX8_unpack_78 rfl (lv_at hl 5 rfl) ?_
                refine lv_iload hx hb dX8_unpack_79 (lv_at hl 2 rfl) ?_
                refine lv_iload hx hb dX8_unpack_81 (lv_at hl 3 rfl) ?_
                refine lv_bipush (v := 11) hx hb dX8_unpack_83 (by decide) ?_
                refine lv_icmp_eq (tgt := 95) hx hb dX8_unpack_85 (by decide) (fun c_21 => ?_) (fun c_21 => ?_)
                · skip
                  rw [if_pos c_21] at hF
                  rw [if_pos c_21] at hs
                  refine lv_iload hx hb dX8_unpack_95 (lv_at hl 1 rfl) ?_
                  refine lv_ineg hx hb dX8_unpack_97 ?_
                  refine lv_goto (tgt := 103) hx hb dX8_unpack_98 (by decide) ?_
                  refine va_iast hx hb hK hP hD hS 2 1 rfl rfl (q_in hv c_5 (by decide)) dX8_unpack_103 (fun H locs hP hD hS => ?_)
                  have hP : va_P D vwCl [(a_this, oX8 a_this_bytes a_this_keys a_this_reg a_this_card a_this_filled a_this_taken a_this_line a_this_one a_this_two o_this), (a_this_bytes, .inl (k_this_bytes, 2048, .inl r_this_bytes)), (a_this_two, .inl (k_this_two, 40, .inl (upd r_this_two_L26 x6.toNatClampNeg (-(f_X8_half r_this_bytes p2 p3 (x6 + (1 : Int32)))))))] H := hP
                  have hD : va_D A [(a_this, oX8 a_this_bytes a_this_keys a_this_reg a_this_card a_this_filled a_this_taken a_this_line a_this_one a_this_two o_this), (a_this_bytes, .inl (k_this_bytes, 2048, .inl r_this_bytes)), (a_this_two, .inl (k_this_two, 40, .inl (upd r_this_two_L26 x6.toNatClampNeg (-(f_X8_half r_this_bytes p2 p3 (x6 + (1 : Int32)))))))] := hD
                  refine lv_iinc (v := (x6 + (1 : Int32))) (lv' := [(6, .int (x6 + (1 : Int32))), (5, .int 1), (7, .int (f_X8_half r_this_bytes p2 p3 (x6 + (1 : Int32)))), (4, .int (f_X8_half r_this_bytes p2 p3 0)), (0, .ref a_this), (1, .ref a_this_two), (2, .int p2), (3, .int p3)]) hx hb dX8_unpack_104 hl (k := 2) rfl rfl (by decide) rfl (fun ls hl => ?_)
                  refine lv_goto (tgt := 26) hx hb dX8_unpack_107 (by decide) ?_
                  exact ih (upd r_this_two_L26 x6.toNatClampNeg (-(f_X8_half r_this_bytes p2 p3 (x6 + (1 : Int32))))) (x6 + (1 : Int32)) true _ _ _ (by first | exact q_up hm c_3 | exact q_up hm hv | exact q_up hm c_5 | exact q_up hm c_6 | exact q_up hm c_15 | exact q_up hm c_18 | exact q_up hm c_21) (by first | exact q_upnn hv c_3 | exact q_upnn hv hv | exact q_upnn hv c_5 | exact q_upnn hv c_6 | exact q_upnn hv c_15 | exact q_upnn hv c_18 | exact q_upnn hv c_21) hP hD hS (lv_sub hl [0, 1, 3, 4, 5, 6, 7] rfl) hF hs
                · skip
                  rw [if_neg c_21] at hF
                  rw [if_neg c_21] at hs
                  refine lv_iload hx hb dX8_unpack_88 (lv_at hl 3 rfl) ?_
                  refine lv_bipush (v := 13) hx hb dX8_unpack_90 (by decide) ?_
                  refine lv_icmp_ne (tgt := 101) hx hb dX8_unpack_92 (by decide) (fun c_22 => ?_) (fun c_22 => ?_)
                  · skip
                    rw [if_neg c_22] at hF
                    rw [if_neg c_22] at hs
                    refine lv_iload hx hb dX8_unpack_101 (lv_at hl 1 rfl) ?_
                    refine va_iast hx hb hK hP hD hS 2 1 rfl rfl (q_in hv c_5 (by decide)) dX8_unpack_103 (fun H locs hP hD hS => ?_)
                    have hP : va_P D vwCl [(a_this, oX8 a_this_bytes a_this_keys a_this_reg a_this_card a_this_filled a_this_taken a_this_line a_this_one a_this_two o_this), (a_this_bytes, .inl (k_this_bytes, 2048, .inl r_this_bytes)), (a_this_two, .inl (k_this_two, 40, .inl (upd r_this_two_L26 x6.toNatClampNeg (f_X8_half r_this_bytes p2 p3 (x6 + (1 : Int32))))))] H := hP
                    have hD : va_D A [(a_this, oX8 a_this_bytes a_this_keys a_this_reg a_this_card a_this_filled a_this_taken a_this_line a_this_one a_this_two o_this), (a_this_bytes, .inl (k_this_bytes, 2048, .inl r_this_bytes)), (a_this_two, .inl (k_this_two, 40, .inl (upd r_this_two_L26 x6.toNatClampNeg (f_X8_half r_this_bytes p2 p3 (x6 + (1 : Int32))))))] := hD
                    refine lv_iinc (v := (x6 + (1 : Int32))) (lv' := [(6, .int (x6 + (1 : Int32))), (5, .int 1), (7, .int (f_X8_half r_this_bytes p2 p3 (x6 + (1 : Int32)))), (4, .int (f_X8_half r_this_bytes p2 p3 0)), (0, .ref a_this), (1, .ref a_this_two), (2, .int p2), (3, .int p3)]) hx hb dX8_unpack_104 hl (k := 2) rfl rfl (by decide) rfl (fun ls hl => ?_)
                    refine lv_goto (tgt := 26) hx hb dX8_unpack_107 (by decide) ?_
                    exact ih (upd r_this_two_L26 x6.toNatClampNeg (f_X8_half r_this_bytes p2 p3 (x6 + (1 : Int32)))) (x6 + (1 : Int32)) true _ _ _ (by first | exact q_up hm c_3 | exact q_up hm hv | exact q_up hm c_5 | exact q_up hm c_6 | exact q_up hm c_15 | exact q_up hm c_18 | exact q_up hm c_21 | exact q_up hm c_22) (by first | exact q_upnn hv c_3 | exact q_upnn hv hv | exact q_upnn hv c_5 | exact q_upnn hv c_6 | exact q_upnn hv c_15 | exact q_upnn hv c_18 | exact q_upnn hv c_21 | exact q_upnn hv c_22) hP hD hS (lv_sub hl [0, 1, 3, 4, 5, 6, 7] rfl) hF hs
                  · skip
                    rw [if_pos c_22] at hF
                    rw [if_pos c_22] at hs
                    refine lv_iload hx hb dX8_unpack_95 (lv_at hl 1 rfl) ?_
                    refine lv_ineg hx hb dX8_unpack_97 ?_
                    refine lv_goto (tgt := 103) hx hb dX8_unpack_98 (by decide) ?_
                    refine va_iast hx hb hK hP hD hS 2 1 rfl rfl (q_in hv c_5 (by decide)) dX8_unpack_103 (fun H locs hP hD hS => ?_)
                    have hP : va_P D vwCl [(a_this, oX8 a_this_bytes a_this_keys a_this_reg a_this_card a_this_filled a_this_taken a_this_line a_this_one a_this_two o_this), (a_this_bytes, .inl (k_this_bytes, 2048, .inl r_this_bytes)), (a_this_two, .inl (k_this_two, 40, .inl (upd r_this_two_L26 x6.toNatClampNeg (-(f_X8_half r_this_bytes p2 p3 (x6 + (1 : Int32)))))))] H := hP
                    have hD : va_D A [(a_this, oX8 a_this_bytes a_this_keys a_this_reg a_this_card a_this_filled a_this_taken a_this_line a_this_one a_this_two o_this), (a_this_bytes, .inl (k_this_bytes, 2048, .inl r_this_bytes)), (a_this_two, .inl (k_this_two, 40, .inl (upd r_this_two_L26 x6.toNatClampNeg (-(f_X8_half r_this_bytes p2 p3 (x6 + (1 : Int32)))))))] := hD
                    refine lv_iinc (v := (x6 + (1 : Int32))) (lv' := [(6, .int (x6 + (1 : Int32))), (5, .int 1), (7, .int (f_X8_half r_this_bytes p2 p3 (x6 + (1 : Int32)))), (4, .int (f_X8_half r_this_bytes p2 p3 0)), (0, .ref a_this), (1, .ref a_this_two), (2, .int p2), (3, .int p3)]) hx hb dX8_unpack_104 hl (k := 2) rfl rfl (by decide) rfl (fun ls hl => ?_)
                    refine lv_goto (tgt := 26) hx hb dX8_unpack_107 (by decide) ?_
                    exact ih (upd r_this_two_L26 x6.toNatClampNeg (-(f_X8_half r_this_bytes p2 p3 (x6 + (1 : Int32))))) (x6 + (1 : Int32)) true _ _ _ (by first | exact q_up hm c_3 | exact q_up hm hv | exact q_up hm c_5 | exact q_up hm c_6 | exact q_up hm c_15 | exact q_up hm c_18 | exact q_up hm c_21 | exact q_up hm c_22) (by first | exact q_upnn hv c_3 | exact q_upnn hv hv | exact q_upnn hv c_5 | exact q_upnn hv c_6 | exact q_upnn hv c_15 | exact q_upnn hv c_18 | exact q_upnn hv c_21 | exact q_upnn hv c_22) hP hD hS (lv_sub hl [0, 1, 3, 4, 5, 6, 7] rfl) hF hs
    exact L26 (((40 : Int32).toInt - (0 : Int32).toInt).toNat + 1) r_this_two 0 false _ _ _ (Nat.lt_succ_self _) (by decide) hP hD hS (lv_sub hl [0, 1, 2, 3, 4, 5, 6] rfl) hF hs
  · skip
    rw [if_neg c_3] at hF
    rw [if_neg c_3] at hs
    refine lv_iconst (v := 1) hx hb dX8_unpack_16 (by decide) ?_
    refine lv_goto (tgt := 21) hx hb dX8_unpack_17 (by decide) ?_
    refine lv_istore (lv' := [(5, .int 1), (4, .int (f_X8_half r_this_bytes p2 p3 0)), (0, .ref a_this), (1, .ref a_this_two), (2, .int p2), (3, .int p3)]) hx hb dX8_unpack_21 hl (by decide) rfl (fun ls hl => ?_)
    refine lv_iconst (v := 0) hx hb dX8_unpack_23 (by decide) ?_
    refine lv_istore (lv' := [(6, .int 0), (5, .int 1), (4, .int (f_X8_half r_this_bytes p2 p3 0)), (0, .ref a_this), (1, .ref a_this_two), (2, .int p2), (3, .int p3)]) hx hb dX8_unpack_24 hl (by decide) rfl (fun ls hl => ?_)
    have L26 : ∀ (fuel : Nat) (r_this_two_L26 : Nat → Int32) (x6 : Int32) (x5 : Bool) (H : Heap) (locs : List Loc) (ls : Array Slot), ((40 : Int32).toInt - (x6 : Int32).toInt).toNat < fuel → ¬ x6 < 0 → va_P D vwCl [(a_this, oX8 a_this_bytes a_this_keys a_this_reg a_this_card a_this_filled a_this_taken a_this_line a_this_one a_this_two o_this), (a_this_bytes, .inl (k_this_bytes, 2048, .inl r_this_bytes)), (a_this_two, .inl (k_this_two, 40, .inl r_this_two_L26))] H → va_D A [(a_this, oX8 a_this_bytes a_this_keys a_this_reg a_this_card a_this_filled a_this_taken a_this_line a_this_one a_this_two o_this), (a_this_bytes, .inl (k_this_bytes, 2048, .inl r_this_bytes)), (a_this_two, .inl (k_this_two, 40, .inl r_this_two_L26))] → va_S A s.heap H locs → lv_has ls 8 [(6, .int x6), (5, .int (bI x5)), (4, .int (f_X8_half r_this_bytes p2 p3 0)), (0, .ref a_this), (1, .ref a_this_two), (2, .int p2), (3, .int p3)] → f_X8_unpackB_L26 r_this_bytes p2 p3 fuel r_this_two_L26 x6 x5 = F → s_X8_unpackB_L26 r_this_bytes p2 p3 fuel r_this_two_L26 x6 x5 → W p l e ({ frames := 1, cells := 0, slots := 0, locals := 24 } : Room) s m ([.ref a_this, .ref a_this_two, .int p2, .int p3] : List Value).toArray below meth c H locs 0 0 Q (F0 m 26 ls []) := by
      intro fuel
      induction fuel with
      | zero => intro r_this_two_L26 x6 x5 H locs ls hm; exact absurd hm (Nat.not_lt_zero _)
      | succ fuel ih =>
        intro r_this_two_L26 x6 x5 H locs ls hm hv hP hD hS hl hF hs
        rw [f_X8_unpackB_L26] at hF
        rw [s_X8_unpackB_L26] at hs
        skip
        refine lv_iload hx hb dX8_unpack_26 (lv_at hl 0 rfl) ?_
        refine lv_bipush (v := 40) hx hb dX8_unpack_28 (by decide) ?_
        refine lv_icmp_ge (tgt := 110) hx hb dX8_unpack_30 (by decide) (fun c_24 => ?_) (fun c_24 => ?_)
        · skip
          rw [if_pos c_24] at hF
          rw [if_pos c_24] at hs
          refine lv_iload hx hb dX8_unpack_110 (lv_at hl 1 rfl) ?_
          exact hQ x5 (x5, r_this_two_L26) _ _ _ _ dX8_unpack_112 ⟨hF.symm, rfl⟩ hP hD hS
        · skip
          rw [if_neg c_24] at hF
          rw [if_neg c_24] at hs
          refine lv_iload hx hb dX8_unpack_33 (lv_at hl 0 rfl) ?_
          refine lv_iconst (v := 2) hx hb dX8_unpack_35 (by decide) ?_
          refine lv_iload_n hx hb dX8_unpack_36 rfl (lv_at hl 6 rfl) ?_
          refine lv_imul hx hb dX8_unpack_37 ?_
          refine lv_iconst (v := 1) hx hb dX8_unpack_38 (by decide) ?_
          refine lv_isub hx hb dX8_unpack_39 ?_
          refine lv_icmp_ge (tgt := 56) hx hb dX8_unpack_40 (by decide) (fun c_25 => ?_) (fun c_25 => ?_)
          · skip
            rw [if_pos c_25] at hF
            rw [if_pos c_25] at hs
            refine lv_iconst (v := 0) hx hb dX8_unpack_56 (by decide) ?_
            refine lv_istore (lv' := [(7, .int 0), (6, .int x6), (5, .int (bI x5)), (4, .int (f_X8_half r_this_bytes p2 p3 0)), (0, .ref a_this), (1, .ref a_this_two), (2, .int p2), (3, .int p3)]) hx hb dX8_unpack_57 hl (by decide) rfl (fun ls hl => ?_)
            refine lv_iload hx hb dX8_unpack_59 (lv_at hl 2 rfl) ?_
            refine lv_if_eq (tgt := 75) hx hb dX8_unpack_61 (by decide) (fun c_26 => ?_) (fun c_26 => ?_)
            · have c_26 : ¬ x5 = true := by rw [(bI_eq0 _).mp c_26]; decide
              rw [if_neg c_26] at hF
              rw [if_neg c_26] at hs
              refine lv_iconst (v := 0) hx hb dX8_unpack_75 (by decide) ?_
              refine lv_istore (lv' := [(5, .int 0), (7, .int 0), (6, .int x6), (4, .int (f_X8_half r_this_bytes p2 p3 0)), (0, .ref a_this), (1, .ref a_this_two), (2, .int p2), (3, .int p3)]) hx hb dX8_unpack_76 hl (by decide) rfl (fun ls hl => ?_)
              refine lv_aload_n hx hb dX8_unpack_78 rfl (lv_at hl 5 rfl) ?_
              refine lv_iload hx hb dX8_unpack_79 (lv_at hl 2 rfl) ?_
              refine lv_iload hx hb dX8_unpack_81 (lv_at hl 3 rfl) ?_
              refine lv_bipush (v := 11) hx hb dX8_unpack_83 (by decide) ?_
              refine lv_icmp_eq (tgt := 95) hx hb dX8_unpack_85 (by decide) (fun c_27 => ?_) (fun c_27 => ?_)
              · skip
                rw [if_pos c_27] at hF
                rw [if_pos c_27] at hs
                refine lv_iload hx hb dX8_unpack_95 (lv_at hl 1 rfl) ?_
                refine lv_ineg hx hb dX8_unpack_97 ?_
                refine lv_goto (tgt := 103) hx hb dX8_unpack_98 (by decide) ?_
                refine va_iast hx hb hK hP hD hS 2 1 rfl rfl (q_in hv c_24 (by decide)) dX8_unpack_103 (fun H locs hP hD hS => ?_)
                have hP : va_P D vwCl [(a_this, oX8 a_this_bytes a_this_keys a_this_reg a_this_card a_this_filled a_this_taken a_this_line a_this_one a_this_two o_this), (a_this_bytes, .inl (k_this_bytes, 2048, .inl r_this_bytes)), (a_this_two, .inl (k_this_two, 40, .inl (upd r_this_two_L26 x6.toNatClampNeg (-0))))] H := hP
                have hD : va_D A [(a_this, oX8 a_this_bytes a_this_keys a_this_reg a_this_card a_this_filled a_this_taken a_this_line a_this_one a_this_two o_this), (a_this_bytes, .inl (k_this_bytes, 2048, .inl r_this_bytes)), (a_this_two, .inl (k_this_two, 40, .inl (upd r_this_two_L26 x6.toNatClampNeg (-0))))] := hD
                refine lv_iinc (v := (x6 + (1 : Int32))) (lv' := [(6, .int (x6 + (1 : Int32))), (5, .int 0), (7, .int 0), (4, .int (f_X8_half r_this_bytes p2 p3 0)), (0, .ref a_this), (1, .ref a_this_two), (2, .int p2), (3, .int p3)]) hx hb dX8_unpack_104 hl (k := 2) rfl rfl (by decide) rfl (fun ls hl => ?_)
                refine lv_goto (tgt := 26) hx hb dX8_unpack_107 (by decide) ?_
                exact ih (upd r_this_two_L26 x6.toNatClampNeg (-0)) (x6 + (1 : Int32)) false _ _ _ (by first | exact q_up hm c_3 | exact q_up hm hv | exact q_up hm c_24 | exact q_up hm c_25 | exact q_up hm c_26 | exact q_up hm c_27) (by first | exact q_upnn hv c_3 | exact q_upnn hv hv | exact q_upnn hv c_24 | exact q_upnn hv c_25 | exact q_upnn hv c_26 | exact q_upnn hv c_27) hP hD hS (lv_sub hl [0, 1, 3, 4, 5, 6, 7] rfl) hF hs
              · skip
                rw [if_neg c_27] at hF
                rw [if_neg c_27] at hs
                refine lv_iload hx hb dX8_unpack_88 (lv_at hl 3 rfl) ?_
                refine lv_bipush (v := 13) hx hb dX8_unpack_90 (by decide) ?_
                refine lv_icmp_ne (tgt := 101) hx hb dX8_unpack_92 (by decide) (fun c_28 => ?_) (fun c_28 => ?_)
                · skip
                  rw [if_neg c_28] at hF
                  rw [if_neg c_28] at hs
                  refine lv_iload hx hb dX8_unpack_101 (lv_at hl 1 rfl) ?_
                  refine va_iast hx hb hK hP hD hS 2 1 rfl rfl (q_in hv c_24 (by decide)) dX8_unpack_103 (fun H locs hP hD hS => ?_)
                  have hP : va_P D vwCl [(a_this, oX8 a_this_bytes a_this_keys a_this_reg a_this_card a_this_filled a_this_taken a_this_line a_this_one a_this_two o_this), (a_this_bytes, .inl (k_this_bytes, 2048, .inl r_this_bytes)), (a_this_two, .inl (k_this_two, 40, .inl (upd r_this_two_L26 x6.toNatClampNeg 0)))] H := hP
                  have hD : va_D A [(a_this, oX8 a_this_bytes a_this_keys a_this_reg a_this_card a_this_filled a_this_taken a_this_line a_this_one a_this_two o_this), (a_this_bytes, .inl (k_this_bytes, 2048, .inl r_this_bytes)), (a_this_two, .inl (k_this_two, 40, .inl (upd r_this_two_L26 x6.toNatClampNeg 0)))] := hD
                  refine lv_iinc (v := (x6 + (1 : Int32))) (lv' := [(6, .int (x6 + (1 : Int32))), (5, .int 0), (7, .int 0), (4, .int (f_X8_half r_this_bytes p2 p3 0)), (0, .ref a_this), (1, .ref a_this_two), (2, .int p2), (3, .int p3)]) hx hb dX8_unpack_104 hl (k := 2) rfl rfl (by decide) rfl (fun ls hl => ?_)
                  refine lv_goto (tgt := 26) hx hb dX8_unpack_107 (by decide) ?_
                  exact ih (upd r_this_two_L26 x6.toNatClampNeg 0) (x6 + (1 : Int32)) false _ _ _ (by first | exact q_up hm c_3 | exact q_up hm hv | exact q_up hm c_24 | exact q_up hm c_25 | exact q_up hm c_26 | exact q_up hm c_27 | exact q_up hm c_28) (by first | exact q_upnn hv c_3 | exact q_upnn hv hv | exact q_upnn hv c_24 | exact q_upnn hv c_25 | exact q_upnn hv c_26 | exact q_upnn hv c_27 | exact q_upnn hv c_28) hP hD hS (lv_sub hl [0, 1, 3, 4, 5, 6, 7] rfl) hF hs
                · skip
                  rw [if_pos c_28] at hF
                  rw [if_pos c_28] at hs
                  refine lv_iload hx hb dX8_unpack_95 (lv_at hl 1 rfl) ?_
                  refine lv_ineg hx hb dX8_unpack_97 ?_
                  refine lv_goto (tgt := 103) hx hb dX8_unpack_98 (by decide) ?_
                  refine va_iast hx hb hK hP hD hS 2 1 rfl rfl (q_in hv c_24 (by decide)) dX8_unpack_103 (fun H locs hP hD hS => ?_)
                  have hP : va_P D vwCl [(a_this, oX8 a_this_bytes a_this_keys a_this_reg a_this_card a_this_filled a_this_taken a_this_line a_this_one a_this_two o_this), (a_this_bytes, .inl (k_this_bytes, 2048, .inl r_this_bytes)), (a_this_two, .inl (k_this_two, 40, .inl (upd r_this_two_L26 x6.toNatClampNeg (-0))))] H := hP
                  have hD : va_D A [(a_this, oX8 a_this_bytes a_this_keys a_this_reg a_this_card a_this_filled a_this_taken a_this_line a_this_one a_this_two o_this), (a_this_bytes, .inl (k_this_bytes, 2048, .inl r_this_bytes)), (a_this_two, .inl (k_this_two, 40, .inl (upd r_this_two_L26 x6.toNatClampNeg (-0))))] := hD
                  refine lv_iinc (v := (x6 + (1 : Int32))) (lv' := [(6, .int (x6 + (1 : Int32))), (5, .int 0), (7, .int 0), (4, .int (f_X8_half r_this_bytes p2 p3 0)), (0, .ref a_this), (1, .ref a_this_two), (2, .int p2), (3, .int p3)]) hx hb dX8_unpack_104 hl (k := 2) rfl rfl (by decide) rfl (fun ls hl => ?_)
                  refine lv_goto (tgt := 26) hx hb dX8_unpack_107 (by decide) ?_
                  exact ih (upd r_this_two_L26 x6.toNatClampNeg (-0)) (x6 + (1 : Int32)) false _ _ _ (by first | exact q_up hm c_3 | exact q_up hm hv | exact q_up hm c_24 | exact q_up hm c_25 | exact q_up hm c_26 | exact q_up hm c_27 | exact q_up hm c_28) (by first | exact q_upnn hv c_3 | exact q_upnn hv hv | exact q_upnn hv c_24 | exact q_upnn hv c_25 | exact q_upnn hv c_26 | exact q_upnn hv c_27 | exact q_upnn hv c_28) hP hD hS (lv_sub hl [0, 1, 3, 4, 5, 6, 7] rfl) hF hs
            · have c_26 := (bI_ne0 _).mp c_26
              rw [if_pos c_26] at hF
              rw [if_pos c_26] at hs
              refine lv_iload hx hb dX8_unpack_64 (lv_at hl 0 rfl) ?_
              refine lv_bipush (v := 10) hx hb dX8_unpack_66 (by decide) ?_
              refine lv_icmp_ge (tgt := 75) hx hb dX8_unpack_68 (by decide) (fun c_29 => ?_) (fun c_29 => ?_)
              · exact absurd c_29 (by decide)
              · skip
                refine lv_iconst (v := 1) hx hb dX8_unpack_71 (by decide) ?_
                refine lv_goto (tgt := 76) hx hb dX8_unpack_72 (by decide) ?_
                refine lv_istore (lv' := [(5, .int 1), (7, .int 0), (6, .int x6), (4, .int (f_X8_half r_this_bytes p2 p3 0)), (0, .ref a_this), (1, .ref a_this_two), (2, .int p2), (3, .int p3)]) hx hb dX8_unpack_76 hl (by decide) rfl (fun ls hl => ?_)
                refine lv_aload_n hx hb dX8_unpack_78 rfl (lv_at hl 5 rfl) ?_
                refine lv_iload hx hb dX8_unpack_79 (lv_at hl 2 rfl) ?_
                refine lv_iload hx hb dX8_unpack_81 (lv_at hl 3 rfl) ?_
                refine lv_bipush (v := 11) hx hb dX8_unpack_83 (by decide) ?_
                refine lv_icmp_eq (tgt := 95) hx hb dX8_unpack_85 (by decide) (fun c_30 => ?_) (fun c_30 => ?_)
                · skip
                  rw [if_pos c_30] at hF
                  rw [if_pos c_30] at hs
                  refine lv_iload hx hb dX8_unpack_95 (lv_at hl 1 rfl) ?_
                  refine lv_ineg hx hb dX8_unpack_97 ?_
                  refine lv_goto (tgt := 103) hx hb dX8_unpack_98 (by decide) ?_
                  refine va_iast hx hb hK hP hD hS 2 1 rfl rfl (q_in hv c_24 (by decide)) dX8_unpack_103 (fun H locs hP hD hS => ?_)
                  have hP : va_P D vwCl [(a_this, oX8 a_this_bytes a_this_keys a_this_reg a_this_card a_this_filled a_this_taken a_this_line a_this_one a_this_two o_this), (a_this_bytes, .inl (k_this_bytes, 2048, .inl r_this_bytes)), (a_this_two, .inl (k_this_two, 40, .inl (upd r_this_two_L26 x6.toNatClampNeg (-0))))] H := hP
                  have hD : va_D A [(a_this, oX8 a_this_bytes a_this_keys a_this_reg a_this_card a_this_filled a_this_taken a_this_line a_this_one a_this_two o_this), (a_this_bytes, .inl (k_this_bytes, 2048, .inl r_this_bytes)), (a_this_two, .inl (k_this_two, 40, .inl (upd r_this_two_L26 x6.toNatClampNeg (-0))))] := hD
                  refine lv_iinc (v := (x6 + (1 : Int32))) (lv' := [(6, .int (x6 + (1 : Int32))), (5, .int 1), (7, .int 0), (4, .int (f_X8_half r_this_bytes p2 p3 0)), (0, .ref a_this), (1, .ref a_this_two), (2, .int p2), (3, .int p3)]) hx hb dX8_unpack_104 hl (k := 2) rfl rfl (by decide) rfl (fun ls hl => ?_)
                  refine lv_goto (tgt := 26) hx hb dX8_unpack_107 (by decide) ?_
                  exact ih (upd r_this_two_L26 x6.toNatClampNeg (-0)) (x6 + (1 : Int32)) true _ _ _ (by first | exact q_up hm c_3 | exact q_up hm hv | exact q_up hm c_24 | exact q_up hm c_25 | exact q_up hm c_26 | exact q_up hm c_30) (by first | exact q_upnn hv c_3 | exact q_upnn hv hv | exact q_upnn hv c_24 | exact q_upnn hv c_25 | exact q_upnn hv c_26 | exact q_upnn hv c_30) hP hD hS (lv_sub hl [0, 1, 3, 4, 5, 6, 7] rfl) hF hs
                · skip
                  rw [if_neg c_30] at hF
                  rw [if_neg c_30] at hs
                  refine lv_iload hx hb dX8_unpack_88 (lv_at hl 3 rfl) ?_
                  refine lv_bipush (v := 13) hx hb dX8_unpack_90 (by decide) ?_
                  refine lv_icmp_ne (tgt := 101) hx hb dX8_unpack_92 (by decide) (fun c_31 => ?_) (fun c_31 => ?_)
                  · skip
                    rw [if_neg c_31] at hF
                    rw [if_neg c_31] at hs
                    refine lv_iload hx hb dX8_unpack_101 (lv_at hl 1 rfl) ?_
                    refine va_iast hx hb hK hP hD hS 2 1 rfl rfl (q_in hv c_24 (by decide)) dX8_unpack_103 (fun H locs hP hD hS => ?_)
                    have hP : va_P D vwCl [(a_this, oX8 a_this_bytes a_this_keys a_this_reg a_this_card a_this_filled a_this_taken a_this_line a_this_one a_this_two o_this), (a_this_bytes, .inl (k_this_bytes, 2048, .inl r_this_bytes)), (a_this_two, .inl (k_this_two, 40, .inl (upd r_this_two_L26 x6.toNatClampNeg 0)))] H := hP
                    have hD : va_D A [(a_this, oX8 a_this_bytes a_this_keys a_this_reg a_this_card a_this_filled a_this_taken a_this_line a_this_one a_this_two o_this), (a_this_bytes, .inl (k_this_bytes, 2048, .inl r_this_bytes)), (a_this_two, .inl (k_this_two, 40, .inl (upd r_this_two_L26 x6.toNatClampNeg 0)))] := hD
                    refine lv_iinc (v := (x6 + (1 : Int32))) (lv' := [(6, .int (x6 + (1 : Int32))), (5, .int 1), (7, .int 0), (4, .int (f_X8_half r_this_bytes p2 p3 0)), (0, .ref a_this), (1, .ref a_this_two), (2, .int p2), (3, .int p3)]) hx hb dX8_unpack_104 hl (k := 2) rfl rfl (by decide) rfl (fun ls hl => ?_)
                    refine lv_goto (tgt := 26) hx hb dX8_unpack_107 (by decide) ?_
                    exact ih (upd r_this_two_L26 x6.toNatClampNeg 0) (x6 + (1 : Int32)) true _ _ _ (by first | exact q_up hm c_3 | exact q_up hm hv | exact q_up hm c_24 | exact q_up hm c_25 | exact q_up hm c_26 | exact q_up hm c_30 | exact q_up hm c_31) (by first | exact q_upnn hv c_3 | exact q_upnn hv hv | exact q_upnn hv c_24 | exact q_upnn hv c_25 | exact q_upnn hv c_26 | exact q_upnn hv c_30 | exact q_upnn hv c_31) hP hD hS (lv_sub hl [0, 1, 3, 4, 5, 6, 7] rfl) hF hs
                  · skip
                    rw [if_pos c_31] at hF
                    rw [if_pos c_31] at hs
                    refine lv_iload hx hb dX8_unpack_95 (lv_at hl 1 rfl) ?_
                    refine lv_ineg hx hb dX8_unpack_97 ?_
                    refine lv_goto (tgt := 103) hx hb dX8_unpack_98 (by decide) ?_
                    refine va_iast hx hb hK hP hD hS 2 1 rfl rfl (q_in hv c_24 (by decide)) dX8_unpack_103 (fun H locs hP hD hS => ?_)
                    have hP : va_P D vwCl [(a_this, oX8 a_this_bytes a_this_keys a_this_reg a_this_card a_this_filled a_this_taken a_this_line a_this_one a_this_two o_this), (a_this_bytes, .inl (k_this_bytes, 2048, .inl r_this_bytes)), (a_this_two, .inl (k_this_two, 40, .inl (upd r_this_two_L26 x6.toNatClampNeg (-0))))] H := hP
                    have hD : va_D A [(a_this, oX8 a_this_bytes a_this_keys a_this_reg a_this_card a_this_filled a_this_taken a_this_line a_this_one a_this_two o_this), (a_this_bytes, .inl (k_this_bytes, 2048, .inl r_this_bytes)), (a_this_two, .inl (k_this_two, 40, .inl (upd r_this_two_L26 x6.toNatClampNeg (-0))))] := hD
                    refine lv_iinc (v := (x6 + (1 : Int32))) (lv' := [(6, .int (x6 + (1 : Int32))), (5, .int 1), (7, .int 0), (4, .int (f_X8_half r_this_bytes p2 p3 0)), (0, .ref a_this), (1, .ref a_this_two), (2, .int p2), (3, .int p3)]) hx hb dX8_unpack_104 hl (k := 2) rfl rfl (by decide) rfl (fun ls hl => ?_)
                    refine lv_goto (tgt := 26) hx hb dX8_unpack_107 (by decide) ?_
                    exact ih (upd r_this_two_L26 x6.toNatClampNeg (-0)) (x6 + (1 : Int32)) true _ _ _ (by first | exact q_up hm c_3 | exact q_up hm hv | exact q_up hm c_24 | exact q_up hm c_25 | exact q_up hm c_26 | exact q_up hm c_30 | exact q_up hm c_31) (by first | exact q_upnn hv c_3 | exact q_upnn hv hv | exact q_upnn hv c_24 | exact q_upnn hv c_25 | exact q_upnn hv c_26 | exact q_upnn hv c_30 | exact q_upnn hv c_31) hP hD hS (lv_sub hl [0, 1, 3, 4, 5, 6, 7] rfl) hF hs
          · skip
            rw [if_neg c_25] at hF
            rw [if_neg c_25] at hs
            refine lv_aload_n hx hb dX8_unpack_43 rfl (lv_at hl 3 rfl) ?_
            refine lv_iload_n hx hb dX8_unpack_44 rfl (lv_at hl 5 rfl) ?_
            refine lv_iload_n hx hb dX8_unpack_45 rfl (lv_at hl 6 rfl) ?_
            refine lv_iload hx hb dX8_unpack_46 (lv_at hl 0 rfl) ?_
            refine lv_iconst (v := 1) hx hb dX8_unpack_48 (by decide) ?_
            refine lv_iadd hx hb dX8_unpack_49 ?_
            obtain ⟨hi_32, hs⟩ := hs
            refine q_Vi (rest := []) (c_X8_half l D a_this a_this_bytes a_this_keys a_this_reg a_this_card a_this_filled a_this_taken a_this_line a_this_one a_this_two k_this_bytes o_this r_this_bytes p2 p3 (x6 + (1 : Int32)) hi_32) cv_X8_half hx hb hml hown ht hN hK hA hP hD hS hl.1 (km_X8_203) ⟨Nat.le_of_ble_eq_true rfl, Nat.le_of_ble_eq_true rfl⟩ rfl rfl [0, 1] (by decide) rfl [0] rfl (fun _ => rfl) (ci := 8) rfl rfl rfl rfl rfl (Nat.le_of_ble_eq_true rfl) dX8_unpack_50 ⟨Nat.zero_le _, Nat.zero_le _⟩ (fun r u H locs hw hP hD hS => ?_)
            obtain ⟨rfl, rfl⟩ := hw
            have hP : va_P D vwCl [(a_this, oX8 a_this_bytes a_this_keys a_this_reg a_this_card a_this_filled a_this_taken a_this_line a_this_one a_this_two o_this), (a_this_bytes, .inl (k_this_bytes, 2048, .inl r_this_bytes)), (a_this_two, .inl (k_this_two, 40, .inl r_this_two_L26))] H := hP
            have hD : va_D A [(a_this, oX8 a_this_bytes a_this_keys a_this_reg a_this_card a_this_filled a_this_taken a_this_line a_this_one a_this_two o_this), (a_this_bytes, .inl (k_this_bytes, 2048, .inl r_this_bytes)), (a_this_two, .inl (k_this_two, 40, .inl r_this_two_L26))] := hD
            refine lv_goto (tgt := 57) hx hb dX8_unpack_53 (by decide) ?_
            refine lv_istore (lv' := [(7, .int (f_X8_half r_this_bytes p2 p3 (x6 + (1 : Int32)))), (6, .int x6), (5, .int (bI x5)), (4, .int (f_X8_half r_this_bytes p2 p3 0)), (0, .ref a_this), (1, .ref a_this_two), (2, .int p2), (3, .int p3)]) hx hb dX8_unpack_57 hl (by decide) rfl (fun ls hl => ?_)
            refine lv_iload hx hb dX8_unpack_59 (lv_at hl 2 rfl) ?_
            refine lv_if_eq (tgt := 75) hx hb dX8_unpack_61 (by decide) (fun c_34 => ?_) (fun c_34 => ?_)
            · have c_34 : ¬ x5 = true := by rw [(bI_eq0 _).mp c_34]; decide
              rw [if_neg c_34] at hF
              rw [if_neg c_34] at hs
              refine lv_iconst (v := 0) hx hb dX8_unpack_75 (by decide) ?_
              refine lv_istore (lv' := [(5, .int 0), (7, .int (f_X8_half r_this_bytes p2 p3 (x6 + (1 : Int32)))), (6, .int x6), (4, .int (f_X8_half r_this_bytes p2 p3 0)), (0, .ref a_this), (1, .ref a_this_two), (2, .int p2), (3, .int p3)]) hx hb dX8_unpack_76 hl (by decide) rfl (fun ls hl => ?_)
              refine lv_aload_n hx hb dX8_unpack_78 rfl (lv_at hl 5 rfl) ?_
              refine lv_iload hx hb dX8_unpack_79 (lv_at hl 2 rfl) ?_
              refine lv_iload hx hb dX8_unpack_81 (lv_at hl 3 rfl) ?_
              refine lv_bipush (v := 11) hx hb dX8_unpack_83 (by decide) ?_
              refine lv_icmp_eq (tgt := 95) hx hb dX8_unpack_85 (by decide) (fun c_35 => ?_) (fun c_35 => ?_)
              · skip
                rw [if_pos c_35] at hF
                rw [if_pos c_35] at hs
                refine lv_iload hx hb dX8_unpack_95 (lv_at hl 1 rfl) ?_
                refine lv_ineg hx hb dX8_unpack_97 ?_
                refine lv_goto (tgt := 103) hx hb dX8_unpack_98 (by decide) ?_
                refine va_iast hx hb hK hP hD hS 2 1 rfl rfl (q_in hv c_24 (by decide)) dX8_unpack_103 (fun H locs hP hD hS => ?_)
                have hP : va_P D vwCl [(a_this, oX8 a_this_bytes a_this_keys a_this_reg a_this_card a_this_filled a_this_taken a_this_line a_this_one a_this_two o_this), (a_this_bytes, .inl (k_this_bytes, 2048, .inl r_this_bytes)), (a_this_two, .inl (k_this_two, 40, .inl (upd r_this_two_L26 x6.toNatClampNeg (-(f_X8_half r_this_bytes p2 p3 (x6 + (1 : Int32)))))))] H := hP
                have hD : va_D A [(a_this, oX8 a_this_bytes a_this_keys a_this_reg a_this_card a_this_filled a_this_taken a_this_line a_this_one a_this_two o_this), (a_this_bytes, .inl (k_this_bytes, 2048, .inl r_this_bytes)), (a_this_two, .inl (k_this_two, 40, .inl (upd r_this_two_L26 x6.toNatClampNeg (-(f_X8_half r_this_bytes p2 p3 (x6 + (1 : Int32)))))))] := hD
                refine lv_iinc (v := (x6 + (1 : Int32))) (lv' := [(6, .int (x6 + (1 : Int32))), (5, .int 0), (7, .int (f_X8_half r_this_bytes p2 p3 (x6 + (1 : Int32)))), (4, .int (f_X8_half r_this_bytes p2 p3 0)), (0, .ref a_this), (1, .ref a_this_two), (2, .int p2), (3, .int p3)]) hx hb dX8_unpack_104 hl (k := 2) rfl rfl (by decide) rfl (fun ls hl => ?_)
                refine lv_goto (tgt := 26) hx hb dX8_unpack_107 (by decide) ?_
                exact ih (upd r_this_two_L26 x6.toNatClampNeg (-(f_X8_half r_this_bytes p2 p3 (x6 + (1 : Int32))))) (x6 + (1 : Int32)) false _ _ _ (by first | exact q_up hm c_3 | exact q_up hm hv | exact q_up hm c_24 | exact q_up hm c_25 | exact q_up hm c_34 | exact q_up hm c_35) (by first | exact q_upnn hv c_3 | exact q_upnn hv hv | exact q_upnn hv c_24 | exact q_upnn hv c_25 | exact q_upnn hv c_34 | exact q_upnn hv c_35) hP hD hS (lv_sub hl [0, 1, 3, 4, 5, 6, 7] rfl) hF hs
              · skip
                rw [if_neg c_35] at hF
                rw [if_neg c_35] at hs
                refine lv_iload hx hb dX8_unpack_88 (lv_at hl 3 rfl) ?_
                refine lv_bipush (v := 13) hx hb dX8_unpack_90 (by decide) ?_
                refine lv_icmp_ne (tgt := 101) hx hb dX8_unpack_92 (by decide) (fun c_36 => ?_) (fun c_36 => ?_)
                · skip
                  rw [if_neg c_36] at hF
                  rw [if_neg c_36] at hs
                  refine lv_iload hx hb dX8_unpack_101 (lv_at hl 1 rfl) ?_
                  refine va_iast hx hb hK hP hD hS 2 1 rfl rfl (q_in hv c_24 (by decide)) dX8_unpack_103 (fun H locs hP hD hS => ?_)
                  have hP : va_P D vwCl [(a_this, oX8 a_this_bytes a_this_keys a_this_reg a_this_card a_this_filled a_this_taken a_this_line a_this_one a_this_two o_this), (a_this_bytes, .inl (k_this_bytes, 2048, .inl r_this_bytes)), (a_this_two, .inl (k_this_two, 40, .inl (upd r_this_two_L26 x6.toNatClampNeg (f_X8_half r_this_bytes p2 p3 (x6 + (1 : Int32))))))] H := hP
                  have hD : va_D A [(a_this, oX8 a_this_bytes a_this_keys a_this_reg a_this_card a_this_filled a_this_taken a_this_line a_this_one a_this_two o_this), (a_this_bytes, .inl (k_this_bytes, 2048, .inl r_this_bytes)), (a_this_two, .inl (k_this_two, 40, .inl (upd r_this_two_L26 x6.toNatClampNeg (f_X8_half r_this_bytes p2 p3 (x6 + (1 : Int32))))))] := hD
                  refine lv_iinc (v := (x6 + (1 : Int32))) (lv' := [(6, .int (x6 + (1 : Int32))), (5, .int 0), (7, .int (f_X8_half r_this_bytes p2 p3 (x6 + (1 : Int32)))), (4, .int (f_X8_half r_this_bytes p2 p3 0)), (0, .ref a_this), (1, .ref a_this_two), (2, .int p2), (3, .int p3)]) hx hb dX8_unpack_104 hl (k := 2) rfl rfl (by decide) rfl (fun ls hl => ?_)
                  refine lv_goto (tgt := 26) hx hb dX8_unpack_107 (by decide) ?_
                  exact ih (upd r_this_two_L26 x6.toNatClampNeg (f_X8_half r_this_bytes p2 p3 (x6 + (1 : Int32)))) (x6 + (1 : Int32)) false _ _ _ (by first | exact q_up hm c_3 | exact q_up hm hv | exact q_up hm c_24 | exact q_up hm c_25 | exact q_up hm c_34 | exact q_up hm c_35 | exact q_up hm c_36) (by first | exact q_upnn hv c_3 | exact q_upnn hv hv | exact q_upnn hv c_24 | exact q_upnn hv c_25 | exact q_upnn hv c_34 | exact q_upnn hv c_35 | exact q_upnn hv c_36) hP hD hS (lv_sub hl [0, 1, 3, 4, 5, 6, 7] rfl) hF hs
                · skip
                  rw [if_pos c_36] at hF
                  rw [if_pos c_36] at hs
                  refine lv_iload hx hb dX8_unpack_95 (lv_at hl 1 rfl) ?_
                  refine lv_ineg hx hb dX8_unpack_97 ?_
                  refine lv_goto (tgt := 103) hx hb dX8_unpack_98 (by decide) ?_
                  refine va_iast hx hb hK hP hD hS 2 1 rfl rfl (q_in hv c_24 (by decide)) dX8_unpack_103 (fun H locs hP hD hS => ?_)
                  have hP : va_P D vwCl [(a_this, oX8 a_this_bytes a_this_keys a_this_reg a_this_card a_this_filled a_this_taken a_this_line a_this_one a_this_two o_this), (a_this_bytes, .inl (k_this_bytes, 2048, .inl r_this_bytes)), (a_this_two, .inl (k_this_two, 40, .inl (upd r_this_two_L26 x6.toNatClampNeg (-(f_X8_half r_this_bytes p2 p3 (x6 + (1 : Int32)))))))] H := hP
                  have hD : va_D A [(a_this, oX8 a_this_bytes a_this_keys a_this_reg a_this_card a_this_filled a_this_taken a_this_line a_this_one a_this_two o_this), (a_this_bytes, .inl (k_this_bytes, 2048, .inl r_this_bytes)), (a_this_two, .inl (k_this_two, 40, .inl (upd r_this_two_L26 x6.toNatClampNeg (-(f_X8_half r_this_bytes p2 p3 (x6 + (1 : Int32)))))))] := hD
                  refine lv_iinc (v := (x6 + (1 : Int32))) (lv' := [(6, .int (x6 + (1 : Int32))), (5, .int 0), (7, .int (f_X8_half r_this_bytes p2 p3 (x6 + (1 : Int32)))), (4, .int (f_X8_half r_this_bytes p2 p3 0)), (0, .ref a_this), (1, .ref a_this_two), (2, .int p2), (3, .int p3)]) hx hb dX8_unpack_104 hl (k := 2) rfl rfl (by decide) rfl (fun ls hl => ?_)
                  refine lv_goto (tgt := 26) hx hb dX8_unpack_107 (by decide) ?_
                  exact ih (upd r_this_two_L26 x6.toNatClampNeg (-(f_X8_half r_this_bytes p2 p3 (x6 + (1 : Int32))))) (x6 + (1 : Int32)) false _ _ _ (by first | exact q_up hm c_3 | exact q_up hm hv | exact q_up hm c_24 | exact q_up hm c_25 | exact q_up hm c_34 | exact q_up hm c_35 | exact q_up hm c_36) (by first | exact q_upnn hv c_3 | exact q_upnn hv hv | exact q_upnn hv c_24 | exact q_upnn hv c_25 | exact q_upnn hv c_34 | exact q_upnn hv c_35 | exact q_upnn hv c_36) hP hD hS (lv_sub hl [0, 1, 3, 4, 5, 6, 7] rfl) hF hs
            · have c_34 := (bI_ne0 _).mp c_34
              rw [if_pos c_34] at hF
              rw [if_pos c_34] at hs
              refine lv_iload hx hb dX8_unpack_64 (lv_at hl 0 rfl) ?_
              refine lv_bipush (v := 10) hx hb dX8_unpack_66 (by decide) ?_
              refine lv_icmp_ge (tgt := 75) hx hb dX8_unpack_68 (by decide) (fun c_37 => ?_) (fun c_37 => ?_)
              · skip
                rw [if_pos c_37] at hF
                rw [if_pos c_37] at hs
                refine lv_iconst (v := 0) hx hb dX8_unpack_75 (by decide) ?_
                refine lv_istore (lv' := [(5, .int 0), (7, .int (f_X8_half r_this_bytes p2 p3 (x6 + (1 : Int32)))), (6, .int x6), (4, .int (f_X8_half r_this_bytes p2 p3 0)), (0, .ref a_this), (1, .ref a_this_two), (2, .int p2), (3, .int p3)]) hx hb dX8_unpack_76 hl (by decide) rfl (fun ls hl => ?_)
                refine lv_aload_n hx hb dX8_unpack_78 rfl (lv_at hl 5 rfl) ?_
                refine lv_iload hx hb dX8_unpack_79 (lv_at hl 2 rfl) ?_
                refine lv_iload hx hb dX8_unpack_81 (lv_at hl 3 rfl) ?_
                refine lv_bipush (v := 11) hx hb dX8_unpack_83 (by decide) ?_
                refine lv_icmp_eq (tgt := 95) hx hb dX8_unpack_85 (by decide) (fun c_38 => ?_) (fun c_38 => ?_)
                · skip
                  rw [if_pos c_38] at hF
                  rw [if_pos c_38] at hs
                  refine lv_iload hx hb dX8_unpack_95 (lv_at hl 1 rfl) ?_
                  refine lv_ineg hx hb dX8_unpack_97 ?_
                  refine lv_goto (tgt := 103) hx hb dX8_unpack_98 (by decide) ?_
                  refine va_iast hx hb hK hP hD hS 2 1 rfl rfl (q_in hv c_24 (by decide)) dX8_unpack_103 (fun H locs hP hD hS => ?_)
                  have hP : va_P D vwCl [(a_this, oX8 a_this_bytes a_this_keys a_this_reg a_this_card a_this_filled a_this_taken a_this_line a_this_one a_this_two o_this), (a_this_bytes, .inl (k_this_bytes, 2048, .inl r_this_bytes)), (a_this_two, .inl (k_this_two, 40, .inl (upd r_this_two_L26 x6.toNatClampNeg (-(f_X8_half r_this_bytes p2 p3 (x6 + (1 : Int32)))))))] H := hP
                  have hD : va_D A [(a_this, oX8 a_this_bytes a_this_keys a_this_reg a_this_card a_this_filled a_this_taken a_this_line a_this_one a_this_two o_this), (a_this_bytes, .inl (k_this_bytes, 2048, .inl r_this_bytes)), (a_this_two, .inl (k_this_two, 40, .inl (upd r_this_two_L26 x6.toNatClampNeg (-(f_X8_half r_this_bytes p2 p3 (x6 + (1 : Int32)))))))] := hD
                  refine lv_iinc (v := (x6 + (1 : Int32))) (lv' := [(6, .int (x6 + (1 : Int32))), (5, .int 0), (7, .int (f_X8_half r_this_bytes p2 p3 (x6 + (1 : Int32)))), (4, .int (f_X8_half r_this_bytes p2 p3 0)), (0, .ref a_this), (1, .ref a_this_two), (2, .int p2), (3, .int p3)]) hx hb dX8_unpack_104 hl (k := 2) rfl rfl (by decide) rfl (fun ls hl => ?_)
                  refine lv_goto (tgt := 26) hx hb dX8_unpack_107 (by decide) ?_
                  exact ih (upd r_this_two_L26 x6.toNatClampNeg (-(f_X8_half r_this_bytes p2 p3 (x6 + (1 : Int32))))) (x6 + (1 : Int32)) false _ _ _ (by first | exact q_up hm c_3 | exact q_up hm hv | exact q_up hm c_24 | exact q_up hm c_25 | exact q_up hm c_34 | exact q_up hm c_37 | exact q_up hm c_38) (by first | exact q_upnn hv c_3 | exact q_upnn hv hv | exact q_upnn hv c_24 | exact q_upnn hv c_25 | exact q_upnn hv c_34 | exact q_upnn hv c_37 | exact q_upnn hv c_38) hP hD hS (lv_sub hl [0, 1, 3, 4, 5, 6, 7] rfl) hF hs
                · skip
                  rw [if_neg c_38] at hF
                  rw [if_neg c_38] at hs
                  refine lv_iload hx hb dX8_unpack_88 (lv_at hl 3 rfl) ?_
                  refine lv_bipush (v := 13) hx hb dX8_unpack_90 (by decide) ?_
                  refine lv_icmp_ne (tgt := 101) hx hb dX8_unpack_92 (by decide) (fun c_39 => ?_) (fun c_39 => ?_)
                  · skip
                    rw [if_neg c_39] at hF
                    rw [if_neg c_39] at hs
                    refine lv_iload hx hb dX8_unpack_101 (lv_at hl 1 rfl) ?_
                    refine va_iast hx hb hK hP hD hS 2 1 rfl rfl (q_in hv c_24 (by decide)) dX8_unpack_103 (fun H locs hP hD hS => ?_)
                    have hP : va_P D vwCl [(a_this, oX8 a_this_bytes a_this_keys a_this_reg a_this_card a_this_filled a_this_taken a_this_line a_this_one a_this_two o_this), (a_this_bytes, .inl (k_this_bytes, 2048, .inl r_this_bytes)), (a_this_two, .inl (k_this_two, 40, .inl (upd r_this_two_L26 x6.toNatClampNeg (f_X8_half r_this_bytes p2 p3 (x6 + (1 : Int32))))))] H := hP
                    have hD : va_D A [(a_this, oX8 a_this_bytes a_this_keys a_this_reg a_this_card a_this_filled a_this_taken a_this_line a_this_one a_this_two o_this), (a_this_bytes, .inl (k_this_bytes, 2048, .inl r_this_bytes)), (a_this_two, .inl (k_this_two, 40, .inl (upd r_this_two_L26 x6.toNatClampNeg (f_X8_half r_this_bytes p2 p3 (x6 + (1 : Int32))))))] := hD
                    refine lv_iinc (v := (x6 + (1 : Int32))) (lv' := [(6, .int (x6 + (1 : Int32))), (5, .int 0), (7, .int (f_X8_half r_this_bytes p2 p3 (x6 + (1 : Int32)))), (4, .int (f_X8_half r_this_bytes p2 p3 0)), (0, .ref a_this), (1, .ref a_this_two), (2, .int p2), (3, .int p3)]) hx hb dX8_unpack_104 hl (k := 2) rfl rfl (by decide) rfl (fun ls hl => ?_)
                    refine lv_goto (tgt := 26) hx hb dX8_unpack_107 (by decide) ?_
                    exact ih (upd r_this_two_L26 x6.toNatClampNeg (f_X8_half r_this_bytes p2 p3 (x6 + (1 : Int32)))) (x6 + (1 : Int32)) false _ _ _ (by first | exact q_up hm c_3 | exact q_up hm hv | exact q_up hm c_24 | exact q_up hm c_25 | exact q_up hm c_34 | exact q_up hm c_37 | exact q_up hm c_38 | exact q_up hm c_39) (by first | exact q_upnn hv c_3 | exact q_upnn hv hv | exact q_upnn hv c_24 | exact q_upnn hv c_25 | exact q_upnn hv c_34 | exact q_upnn hv c_37 | exact q_upnn hv c_38 | exact q_upnn hv c_39) hP hD hS (lv_sub hl [0, 1, 3, 4, 5, 6, 7] rfl) hF hs
                  · skip
                    rw [if_pos c_39] at hF
                    rw [if_pos c_39] at hs
                    refine lv_iload hx hb dX8_unpack_95 (lv_at hl 1 rfl) ?_
                    refine lv_ineg hx hb dX8_unpack_97 ?_
                    refine lv_goto (tgt := 103) hx hb dX8_unpack_98 (by decide) ?_
                    refine va_iast hx hb hK hP hD hS 2 1 rfl rfl (q_in hv c_24 (by decide)) dX8_unpack_103 (fun H locs hP hD hS => ?_)
                    have hP : va_P D vwCl [(a_this, oX8 a_this_bytes a_this_keys a_this_reg a_this_card a_this_filled a_this_taken a_this_line a_this_one a_this_two o_this), (a_this_bytes, .inl (k_this_bytes, 2048, .inl r_this_bytes)), (a_this_two, .inl (k_this_two, 40, .inl (upd r_this_two_L26 x6.toNatClampNeg (-(f_X8_half r_this_bytes p2 p3 (x6 + (1 : Int32)))))))] H := hP
                    have hD : va_D A [(a_this, oX8 a_this_bytes a_this_keys a_this_reg a_this_card a_this_filled a_this_taken a_this_line a_this_one a_this_two o_this), (a_this_bytes, .inl (k_this_bytes, 2048, .inl r_this_bytes)), (a_this_two, .inl (k_this_two, 40, .inl (upd r_this_two_L26 x6.toNatClampNeg (-(f_X8_half r_this_bytes p2 p3 (x6 + (1 : Int32)))))))] := hD
                    refine lv_iinc (v := (x6 + (1 : Int32))) (lv' := [(6, .int (x6 + (1 : Int32))), (5, .int 0), (7, .int (f_X8_half r_this_bytes p2 p3 (x6 + (1 : Int32)))), (4, .int (f_X8_half r_this_bytes p2 p3 0)), (0, .ref a_this), (1, .ref a_this_two), (2, .int p2), (3, .int p3)]) hx hb dX8_unpack_104 hl (k := 2) rfl rfl (by decide) rfl (fun ls hl => ?_)
                    refine lv_goto (tgt := 26) hx hb dX8_unpack_107 (by decide) ?_
                    exact ih (upd r_this_two_L26 x6.toNatClampNeg (-(f_X8_half r_this_bytes p2 p3 (x6 + (1 : Int32))))) (x6 + (1 : Int32)) false _ _ _ (by first | exact q_up hm c_3 | exact q_up hm hv | exact q_up hm c_24 | exact q_up hm c_25 | exact q_up hm c_34 | exact q_up hm c_37 | exact q_up hm c_38 | exact q_up hm c_39) (by first | exact q_upnn hv c_3 | exact q_upnn hv hv | exact q_upnn hv c_24 | exact q_upnn hv c_25 | exact q_upnn hv c_34 | exact q_upnn hv c_37 | exact q_upnn hv c_38 | exact q_upnn hv c_39) hP hD hS (lv_sub hl [0, 1, 3, 4, 5, 6, 7] rfl) hF hs
              · skip
                rw [if_neg c_37] at hF
                rw [if_neg c_37] at hs
                refine lv_iconst (v := 1) hx hb dX8_unpack_71 (by decide) ?_
                refine lv_goto (tgt := 76) hx hb dX8_unpack_72 (by decide) ?_
                refine lv_istore (lv' := [(5, .int 1), (7, .int (f_X8_half r_this_bytes p2 p3 (x6 + (1 : Int32)))), (6, .int x6), (4, .int (f_X8_half r_this_bytes p2 p3 0)), (0, .ref a_this), (1, .ref a_this_two), (2, .int p2), (3, .int p3)]) hx hb dX8_unpack_76 hl (by decide) rfl (fun ls hl => ?_)
                refine lv_aload_n hx hb dX8_unpack_78 rfl (lv_at hl 5 rfl) ?_
                refine lv_iload hx hb dX8_unpack_79 (lv_at hl 2 rfl) ?_
                refine lv_iload hx hb dX8_unpack_81 (lv_at hl 3 rfl) ?_
                refine lv_bipush (v := 11) hx hb dX8_unpack_83 (by decide) ?_
                refine lv_icmp_eq (tgt := 95) hx hb dX8_unpack_85 (by decide) (fun c_40 => ?_) (fun c_40 => ?_)
                · skip
                  rw [if_pos c_40] at hF
                  rw [if_pos c_40] at hs
                  refine lv_iload hx hb dX8_unpack_95 (lv_at hl 1 rfl) ?_
                  refine lv_ineg hx hb dX8_unpack_97 ?_
                  refine lv_goto (tgt := 103) hx hb dX8_unpack_98 (by decide) ?_
                  refine va_iast hx hb hK hP hD hS 2 1 rfl rfl (q_in hv c_24 (by decide)) dX8_unpack_103 (fun H locs hP hD hS => ?_)
                  have hP : va_P D vwCl [(a_this, oX8 a_this_bytes a_this_keys a_this_reg a_this_card a_this_filled a_this_taken a_this_line a_this_one a_this_two o_this), (a_this_bytes, .inl (k_this_bytes, 2048, .inl r_this_bytes)), (a_this_two, .inl (k_this_two, 40, .inl (upd r_this_two_L26 x6.toNatClampNeg (-(f_X8_half r_this_bytes p2 p3 (x6 + (1 : Int32)))))))] H := hP
                  have hD : va_D A [(a_this, oX8 a_this_bytes a_this_keys a_this_reg a_this_card a_this_filled a_this_taken a_this_line a_this_one a_this_two o_this), (a_this_bytes, .inl (k_this_bytes, 2048, .inl r_this_bytes)), (a_this_two, .inl (k_this_two, 40, .inl (upd r_this_two_L26 x6.toNatClampNeg (-(f_X8_half r_this_bytes p2 p3 (x6 + (1 : Int32)))))))] := hD
                  refine lv_iinc (v := (x6 + (1 : Int32))) (lv' := [(6, .int (x6 + (1 : Int32))), (5, .int 1), (7, .int (f_X8_half r_this_bytes p2 p3 (x6 + (1 : Int32)))), (4, .int (f_X8_half r_this_bytes p2 p3 0)), (0, .ref a_this), (1, .ref a_this_two), (2, .int p2), (3, .int p3)]) hx hb dX8_unpack_104 hl (k := 2) rfl rfl (by decide) rfl (fun ls hl => ?_)
                  refine lv_goto (tgt := 26) hx hb dX8_unpack_107 (by decide) ?_
                  exact ih (upd r_this_two_L26 x6.toNatClampNeg (-(f_X8_half r_this_bytes p2 p3 (x6 + (1 : Int32))))) (x6 + (1 : Int32)) true _ _ _ (by first | exact q_up hm c_3 | exact q_up hm hv | exact q_up hm c_24 | exact q_up hm c_25 | exact q_up hm c_34 | exact q_up hm c_37 | exact q_up hm c_40) (by first | exact q_upnn hv c_3 | exact q_upnn hv hv | exact q_upnn hv c_24 | exact q_upnn hv c_25 | exact q_upnn hv c_34 | exact q_upnn hv c_37 | exact q_upnn hv c_40) hP hD hS (lv_sub hl [0, 1, 3, 4, 5, 6, 7] rfl) hF hs
                · skip
                  rw [if_neg c_40] at hF
                  rw [if_neg c_40] at hs
                  refine lv_iload hx hb dX8_unpack_88 (lv_at hl 3 rfl) ?_
                  refine lv_bipush (v := 13) hx hb dX8_unpack_90 (by decide) ?_
                  refine lv_icmp_ne (tgt := 101) hx hb dX8_unpack_92 (by decide) (fun c_41 => ?_) (fun c_41 => ?_)
                  · skip
                    rw [if_neg c_41] at hF
                    rw [if_neg c_41] at hs
                    refine lv_iload hx hb dX8_unpack_101 (lv_at hl 1 rfl) ?_
                    refine va_iast hx hb hK hP hD hS 2 1 rfl rfl (q_in hv c_24 (by decide)) dX8_unpack_103 (fun H locs hP hD hS => ?_)
                    have hP : va_P D vwCl [(a_this, oX8 a_this_bytes a_this_keys a_this_reg a_this_card a_this_filled a_this_taken a_this_line a_this_one a_this_two o_this), (a_this_bytes, .inl (k_this_bytes, 2048, .inl r_this_bytes)), (a_this_two, .inl (k_this_two, 40, .inl (upd r_this_two_L26 x6.toNatClampNeg (f_X8_half r_this_bytes p2 p3 (x6 + (1 : Int32))))))] H := hP
                    have hD : va_D A [(a_this, oX8 a_this_bytes a_this_keys a_this_reg a_this_card a_this_filled a_this_taken a_this_line a_this_one a_this_two o_this), (a_this_bytes, .inl (k_this_bytes, 2048, .inl r_this_bytes)), (a_this_two, .inl (k_this_two, 40, .inl (upd r_this_two_L26 x6.toNatClampNeg (f_X8_half r_this_bytes p2 p3 (x6 + (1 : Int32))))))] := hD
                    refine lv_iinc (v := (x6 + (1 : Int32))) (lv' := [(6, .int (x6 + (1 : Int32))), (5, .int 1), (7, .int (f_X8_half r_this_bytes p2 p3 (x6 + (1 : Int32)))), (4, .int (f_X8_half r_this_bytes p2 p3 0)), (0, .ref a_this), (1, .ref a_this_two), (2, .int p2), (3, .int p3)]) hx hb dX8_unpack_104 hl (k := 2) rfl rfl (by decide) rfl (fun ls hl => ?_)
                    refine lv_goto (tgt := 26) hx hb dX8_unpack_107 (by decide) ?_
                    exact ih (upd r_this_two_L26 x6.toNatClampNeg (f_X8_half r_this_bytes p2 p3 (x6 + (1 : Int32)))) (x6 + (1 : Int32)) true _ _ _ (by first | exact q_up hm c_3 | exact q_up hm hv | exact q_up hm c_24 | exact q_up hm c_25 | exact q_up hm c_34 | exact q_up hm c_37 | exact q_up hm c_40 | exact q_up hm c_41) (by first | exact q_upnn hv c_3 | exact q_upnn hv hv | exact q_upnn hv c_24 | exact q_upnn hv c_25 | exact q_upnn hv c_34 | exact q_upnn hv c_37 | exact q_upnn hv c_40 | exact q_upnn hv c_41) hP hD hS (lv_sub hl [0, 1, 3, 4, 5, 6, 7] rfl) hF hs
                  · skip
                    rw [if_pos c_41] at hF
                    rw [if_pos c_41] at hs
                    refine lv_iload hx hb dX8_unpack_95 (lv_at hl 1 rfl) ?_
                    refine lv_ineg hx hb dX8_unpack_97 ?_
                    refine lv_goto (tgt := 103) hx hb dX8_unpack_98 (by decide) ?_
                    refine va_iast hx hb hK hP hD hS 2 1 rfl rfl (q_in hv c_24 (by decide)) dX8_unpack_103 (fun H locs hP hD hS => ?_)
                    have hP : va_P D vwCl [(a_this, oX8 a_this_bytes a_this_keys a_this_reg a_this_card a_this_filled a_this_taken a_this_line a_this_one a_this_two o_this), (a_this_bytes, .inl (k_this_bytes, 2048, .inl r_this_bytes)), (a_this_two, .inl (k_this_two, 40, .inl (upd r_this_two_L26 x6.toNatClampNeg (-(f_X8_half r_this_bytes p2 p3 (x6 + (1 : Int32)))))))] H := hP
                    have hD : va_D A [(a_this, oX8 a_this_bytes a_this_keys a_this_reg a_this_card a_this_filled a_this_taken a_this_line a_this_one a_this_two o_this), (a_this_bytes, .inl (k_this_bytes, 2048, .inl r_this_bytes)), (a_this_two, .inl (k_this_two, 40, .inl (upd r_this_two_L26 x6.toNatClampNeg (-(f_X8_half r_this_bytes p2 p3 (x6 + (1 : Int32)))))))] := hD
                    refine lv_iinc (v := (x6 + (1 : Int32))) (lv' := [(6, .int (x6 + (1 : Int32))), (5, .int 1), (7, .int (f_X8_half r_this_bytes p2 p3 (x6 + (1 : Int32)))), (4, .int (f_X8_half r_this_bytes p2 p3 0)), (0, .ref a_this), (1, .ref a_this_two), (2, .int p2), (3, .int p3)]) hx hb dX8_unpack_104 hl (k := 2) rfl rfl (by decide) rfl (fun ls hl => ?_)
                    refine lv_goto (tgt := 26) hx hb dX8_unpack_107 (by decide) ?_
                    exact ih (upd r_this_two_L26 x6.toNatClampNeg (-(f_X8_half r_this_bytes p2 p3 (x6 + (1 : Int32))))) (x6 + (1 : Int32)) true _ _ _ (by first | exact q_up hm c_3 | exact q_up hm hv | exact q_up hm c_24 | exact q_up hm c_25 | exact q_up hm c_34 | exact q_up hm c_37 | exact q_up hm c_40 | exact q_up hm c_41) (by first | exact q_upnn hv c_3 | exact q_upnn hv hv | exact q_upnn hv c_24 | exact q_upnn hv c_25 | exact q_upnn hv c_34 | exact q_upnn hv c_37 | exact q_upnn hv c_40 | exact q_upnn hv c_41) hP hD hS (lv_sub hl [0, 1, 3, 4, 5, 6, 7] rfl) hF hs
    exact L26 (((40 : Int32).toInt - (0 : Int32).toInt).toNat + 1) r_this_two 0 true _ _ _ (Nat.lt_succ_self _) (by decide) hP hD hS (lv_sub hl [0, 1, 2, 3, 4, 5, 6] rfl) hF hs
def f_X8_spread_L4 : Nat → (Nat → Int32) → Int32 → Int32 → Nat → Int32
  | 0, r_this_one_L4, x3, x2 => r_this_one_L4
  | fuel + 1, r_this_one_L4, x3, x2 => (if (40 : Int32) ≤ x3 then r_this_one_L4 else f_X8_spread_L4 fuel (upd r_this_one_L4 x3.toNatClampNeg (x2 - x2 / (10 : Int32) * (10 : Int32))) (x3 + (1 : Int32)) (x2 / (10 : Int32)))
def f_X8_spread (r_this_one : Nat → Int32) (p1 : Int32) : Nat → Int32 := f_X8_spread_L4 (((40 : Int32).toInt - (0 : Int32).toInt).toNat + 1) r_this_one 0 p1
set_option linter.all false in
set_option maxHeartbeats 4000000 in
set_option maxRecDepth 100000 in
theorem c_X8_spread (l : Launch) (D : va_G) (a_this a_this_one a_this_bytes a_this_keys a_this_reg a_this_card a_this_filled a_this_taken a_this_line a_this_two : Nat) (k_this_one : ClassId) (o_this : Int32 × Int32 × Int32 × Int32 × Bool × Bool × Int32 × Int32 × Int32 × Int32 × Bool × Bool × Bool × Int32 × Int32 × Int32 × Int32 × Int32 × Int32 × Int32 × Int32 × Int32 × Int32 × Int32 × Int32) (r_this_one : Nat → Int32) (p1 : Int32) : CtV l yX8_spread cX8_spread 4 none { frames := 0, cells := 0, slots := 0, locals := 0 } D [.ref a_this, .int p1] [(a_this, oX8 a_this_bytes a_this_keys a_this_reg a_this_card a_this_filled a_this_taken a_this_line a_this_one a_this_two o_this), (a_this_one, .inl (k_this_one, 40, .inl r_this_one))] [(k_this_one, .int)] (fun (u : Nat → Int32) => f_X8_spread r_this_one p1 = u) (fun u => [(a_this, oX8 a_this_bytes a_this_keys a_this_reg a_this_card a_this_filled a_this_taken a_this_line a_this_one a_this_two o_this), (a_this_one, .inl (k_this_one, 40, .inl u))]) := by
  refine CtV.of (by decide) (Nat.le_of_ble_eq_true rfl) ?_
  intro p e s m below meth c A ls Q hE hP hD hS hl hQ
  obtain ⟨hx, hb, hml, hown, ht, hN, hK, hA⟩ := hE
  have hown : s.vm.findClass RX8 = some m.cls := hown
  have hl : lv_has ls 4 [(0, .ref a_this), (1, .int p1)] := hl
  obtain ⟨F, hF⟩ : ∃ F, f_X8_spread r_this_one p1 = F := ⟨_, rfl⟩
  rw [hF] at hQ
  unfold f_X8_spread at hF
  refine lv_iload_n hx hb dX8_spread_0 rfl (lv_at hl 1 rfl) ?_
  refine lv_istore_n (lv' := [(2, .int p1), (0, .ref a_this), (1, .int p1)]) hx hb dX8_spread_1 rfl hl (by decide) rfl (fun ls hl => ?_)
  refine lv_iconst (v := 0) hx hb dX8_spread_2 (by decide) ?_
  refine lv_istore_n (lv' := [(3, .int 0), (2, .int p1), (0, .ref a_this), (1, .int p1)]) hx hb dX8_spread_3 rfl hl (by decide) rfl (fun ls hl => ?_)
  have L4 : ∀ (fuel : Nat) (r_this_one_L4 : Nat → Int32) (x3 : Int32) (x2 : Int32) (H : Heap) (locs : List Loc) (ls : Array Slot), ((40 : Int32).toInt - (x3 : Int32).toInt).toNat < fuel → ¬ x3 < 0 → va_P D vwCl [(a_this, oX8 a_this_bytes a_this_keys a_this_reg a_this_card a_this_filled a_this_taken a_this_line a_this_one a_this_two o_this), (a_this_one, .inl (k_this_one, 40, .inl r_this_one_L4))] H → va_D A [(a_this, oX8 a_this_bytes a_this_keys a_this_reg a_this_card a_this_filled a_this_taken a_this_line a_this_one a_this_two o_this), (a_this_one, .inl (k_this_one, 40, .inl r_this_one_L4))] → va_S A s.heap H locs → lv_has ls 4 [(3, .int x3), (2, .int x2), (0, .ref a_this), (1, .int p1)] → f_X8_spread_L4 fuel r_this_one_L4 x3 x2 = F → W p l e ({ frames := 0, cells := 0, slots := 0, locals := 0 } : Room) s m ([.ref a_this, .int p1] : List Value).toArray below meth c H locs 0 0 Q (F0 m 4 ls []) := by
    intro fuel
    induction fuel with
    | zero => intro r_this_one_L4 x3 x2 H locs ls hm; exact absurd hm (Nat.not_lt_zero _)
    | succ fuel ih =>
      intro r_this_one_L4 x3 x2 H locs ls hm hv hP hD hS hl hF
      rw [f_X8_spread_L4] at hF
      skip
      refine lv_iload_n hx hb dX8_spread_4 rfl (lv_at hl 0 rfl) ?_
      refine lv_bipush (v := 40) hx hb dX8_spread_5 (by decide) ?_
      refine lv_icmp_ge (tgt := 31) hx hb dX8_spread_7 (by decide) (fun c_2 => ?_) (fun c_2 => ?_)
      · skip
        rw [if_pos c_2] at hF
        exact hQ r_this_one_L4 _ _ _ _ dX8_spread_31 hF.symm hP hD hS
      · skip
        rw [if_neg c_2] at hF
        refine lv_aload_n hx hb dX8_spread_10 rfl (lv_at hl 2 rfl) ?_
        refine gf_X8_31 (v := .ref a_this_one) hx hb hown ht hK hP 0 rfl rfl dX8_spread_11 ?_
        refine lv_iload_n hx hb dX8_spread_14 rfl (lv_at hl 0 rfl) ?_
        refine lv_iload_n hx hb dX8_spread_15 rfl (lv_at hl 1 rfl) ?_
        refine lv_bipush (v := 10) hx hb dX8_spread_16 (by decide) ?_
        refine lv_irem hx hb dX8_spread_18 (by decide) ?_
        refine va_iast hx hb hK hP hD hS 1 0 rfl rfl (q_in hv c_2 (by decide)) dX8_spread_19 (fun H locs hP hD hS => ?_)
        have hP : va_P D vwCl [(a_this, oX8 a_this_bytes a_this_keys a_this_reg a_this_card a_this_filled a_this_taken a_this_line a_this_one a_this_two o_this), (a_this_one, .inl (k_this_one, 40, .inl (upd r_this_one_L4 x3.toNatClampNeg (x2 - x2 / (10 : Int32) * (10 : Int32)))))] H := hP
        have hD : va_D A [(a_this, oX8 a_this_bytes a_this_keys a_this_reg a_this_card a_this_filled a_this_taken a_this_line a_this_one a_this_two o_this), (a_this_one, .inl (k_this_one, 40, .inl (upd r_this_one_L4 x3.toNatClampNeg (x2 - x2 / (10 : Int32) * (10 : Int32)))))] := hD
        refine lv_iload_n hx hb dX8_spread_20 rfl (lv_at hl 1 rfl) ?_
        refine lv_bipush (v := 10) hx hb dX8_spread_21 (by decide) ?_
        refine lv_idiv hx hb dX8_spread_23 (by decide) ?_
        refine lv_istore_n (lv' := [(2, .int (x2 / (10 : Int32))), (3, .int x3), (0, .ref a_this), (1, .int p1)]) hx hb dX8_spread_24 rfl hl (by decide) rfl (fun ls hl => ?_)
        refine lv_iinc (v := (x3 + (1 : Int32))) (lv' := [(3, .int (x3 + (1 : Int32))), (2, .int (x2 / (10 : Int32))), (0, .ref a_this), (1, .int p1)]) hx hb dX8_spread_25 hl (k := 1) rfl rfl (by decide) rfl (fun ls hl => ?_)
        refine lv_goto (tgt := 4) hx hb dX8_spread_28 (by decide) ?_
        exact ih (upd r_this_one_L4 x3.toNatClampNeg (x2 - x2 / (10 : Int32) * (10 : Int32))) (x3 + (1 : Int32)) (x2 / (10 : Int32)) _ _ _ (by first | exact q_up hm hv | exact q_up hm c_2) (by first | exact q_upnn hv hv | exact q_upnn hv c_2) hP hD hS (lv_sub hl [0, 1, 2, 3] rfl) hF
  exact L4 (((40 : Int32).toInt - (0 : Int32).toInt).toNat + 1) r_this_one 0 p1 _ _ _ (Nat.lt_succ_self _) (by decide) hP hD hS (lv_sub hl [0, 1, 2, 3] rfl) hF
theorem cv_X8_spread : qV yX8_spread cX8_spread 4 none 1 := ⟨kc_X8_spread, kt_X8_spread, ks_X8_spread, kn_X8, by decide, by decide +kernel⟩
def f_X8_settle_L47 : Nat → (Nat → Int32) → Int32 → Int32 → Int32 × (Nat → Int32)
  | 0, r_this_one_L47, x3_47, x2_47 => (0, r_this_one_L47)
  | fuel + 1, r_this_one_L47, x3_47, x2_47 => (if (39 : Int32) ≤ x3_47 then (x2_47, r_this_one_L47) else (if ((r_this_one_L47 x3_47.toNatClampNeg) * x2_47) ≤ (9 : Int32) then (if 0 ≤ ((r_this_one_L47 x3_47.toNatClampNeg) * x2_47) then f_X8_settle_L47 fuel (upd (upd r_this_one_L47 x3_47.toNatClampNeg ((((r_this_one_L47 x3_47.toNatClampNeg) * x2_47) - ((10 : Int32) * (0 : Int32))) * x2_47)) (x3_47 + (1 : Int32)).toNatClampNeg (((upd r_this_one_L47 x3_47.toNatClampNeg ((((r_this_one_L47 x3_47.toNatClampNeg) * x2_47) - ((10 : Int32) * (0 : Int32))) * x2_47)) (x3_47 + (1 : Int32)).toNatClampNeg) + ((0 : Int32) * x2_47))) (x3_47 + (1 : Int32)) x2_47 else f_X8_settle_L47 fuel (upd (upd r_this_one_L47 x3_47.toNatClampNeg ((((r_this_one_L47 x3_47.toNatClampNeg) * x2_47) - ((10 : Int32) * ((-1) : Int32))) * x2_47)) (x3_47 + (1 : Int32)).toNatClampNeg (((upd r_this_one_L47 x3_47.toNatClampNeg ((((r_this_one_L47 x3_47.toNatClampNeg) * x2_47) - ((10 : Int32) * ((-1) : Int32))) * x2_47)) (x3_47 + (1 : Int32)).toNatClampNeg) + (((-1) : Int32) * x2_47))) (x3_47 + (1 : Int32)) x2_47) else f_X8_settle_L47 fuel (upd (upd r_this_one_L47 x3_47.toNatClampNeg ((((r_this_one_L47 x3_47.toNatClampNeg) * x2_47) - ((10 : Int32) * (1 : Int32))) * x2_47)) (x3_47 + (1 : Int32)).toNatClampNeg (((upd r_this_one_L47 x3_47.toNatClampNeg ((((r_this_one_L47 x3_47.toNatClampNeg) * x2_47) - ((10 : Int32) * (1 : Int32))) * x2_47)) (x3_47 + (1 : Int32)).toNatClampNeg) + ((1 : Int32) * x2_47))) (x3_47 + (1 : Int32)) x2_47))
def s_X8_settle_L47  : Nat → (Nat → Int32) → Int32 → Int32 → Prop
  | 0, _, _, _ => True
  | fuel + 1, r_this_one_L47, x3_47, x2_47 => (if (39 : Int32) ≤ x3_47 then True else (vp_in x3_47 40 ∧ (if ((r_this_one_L47 x3_47.toNatClampNeg) * x2_47) ≤ (9 : Int32) then (if 0 ≤ ((r_this_one_L47 x3_47.toNatClampNeg) * x2_47) then (vp_in x3_47 40 ∧ (vp_in (x3_47 + (1 : Int32)) 40 ∧ (vp_in (x3_47 + (1 : Int32)) 40 ∧ s_X8_settle_L47  fuel (upd (upd r_this_one_L47 x3_47.toNatClampNeg ((((r_this_one_L47 x3_47.toNatClampNeg) * x2_47) - ((10 : Int32) * (0 : Int32))) * x2_47)) (x3_47 + (1 : Int32)).toNatClampNeg (((upd r_this_one_L47 x3_47.toNatClampNeg ((((r_this_one_L47 x3_47.toNatClampNeg) * x2_47) - ((10 : Int32) * (0 : Int32))) * x2_47)) (x3_47 + (1 : Int32)).toNatClampNeg) + ((0 : Int32) * x2_47))) (x3_47 + (1 : Int32)) x2_47))) else (vp_in x3_47 40 ∧ (vp_in (x3_47 + (1 : Int32)) 40 ∧ (vp_in (x3_47 + (1 : Int32)) 40 ∧ s_X8_settle_L47  fuel (upd (upd r_this_one_L47 x3_47.toNatClampNeg ((((r_this_one_L47 x3_47.toNatClampNeg) * x2_47) - ((10 : Int32) * ((-1) : Int32))) * x2_47)) (x3_47 + (1 : Int32)).toNatClampNeg (((upd r_this_one_L47 x3_47.toNatClampNeg ((((r_this_one_L47 x3_47.toNatClampNeg) * x2_47) - ((10 : Int32) * ((-1) : Int32))) * x2_47)) (x3_47 + (1 : Int32)).toNatClampNeg) + (((-1) : Int32) * x2_47))) (x3_47 + (1 : Int32)) x2_47)))) else (vp_in x3_47 40 ∧ (vp_in (x3_47 + (1 : Int32)) 40 ∧ (vp_in (x3_47 + (1 : Int32)) 40 ∧ s_X8_settle_L47  fuel (upd (upd r_this_one_L47 x3_47.toNatClampNeg ((((r_this_one_L47 x3_47.toNatClampNeg) * x2_47) - ((10 : Int32) * (1 : Int32))) * x2_47)) (x3_47 + (1 : Int32)).toNatClampNeg (((upd r_this_one_L47 x3_47.toNatClampNeg ((((r_this_one_L47 x3_47.toNatClampNeg) * x2_47) - ((10 : Int32) * (1 : Int32))) * x2_47)) (x3_47 + (1 : Int32)).toNatClampNeg) + ((1 : Int32) * x2_47))) (x3_47 + (1 : Int32)) x2_47))))))
def f_X8_settle_L3 (r_this_one : Nat → Int32) : Nat → Int32 → Int32 × (Nat → Int32)
  | 0, x1_3 => (0, r_this_one)
  | fuel + 1, x1_3 => (if x1_3 < 0 then (if 0 ≤ x1_3 then (if 0 ≤ (r_this_one x1_3.toNatClampNeg) then f_X8_settle_L47 (((39 : Int32).toInt - (0 : Int32).toInt).toNat + 1) r_this_one 0 1 else f_X8_settle_L47 (((39 : Int32).toInt - (0 : Int32).toInt).toNat + 1) r_this_one 0 (-1)) else f_X8_settle_L47 (((39 : Int32).toInt - (0 : Int32).toInt).toNat + 1) r_this_one 0 0) else (if (r_this_one x1_3.toNatClampNeg) = 0 then f_X8_settle_L3 r_this_one fuel (x1_3 + ((-1) : Int32)) else (if 0 ≤ x1_3 then (if 0 ≤ (r_this_one x1_3.toNatClampNeg) then f_X8_settle_L47 (((39 : Int32).toInt - (0 : Int32).toInt).toNat + 1) r_this_one 0 1 else f_X8_settle_L47 (((39 : Int32).toInt - (0 : Int32).toInt).toNat + 1) r_this_one 0 (-1)) else f_X8_settle_L47 (((39 : Int32).toInt - (0 : Int32).toInt).toNat + 1) r_this_one 0 0)))
def s_X8_settle_L3 (r_this_one : Nat → Int32) : Nat → Int32 → Prop
  | 0, _ => True
  | fuel + 1, x1_3 => (if x1_3 < 0 then (if 0 ≤ x1_3 then (vp_in x1_3 40 ∧ (if 0 ≤ (r_this_one x1_3.toNatClampNeg) then s_X8_settle_L47  (((39 : Int32).toInt - (0 : Int32).toInt).toNat + 1) r_this_one 0 1 else s_X8_settle_L47  (((39 : Int32).toInt - (0 : Int32).toInt).toNat + 1) r_this_one 0 (-1))) else s_X8_settle_L47  (((39 : Int32).toInt - (0 : Int32).toInt).toNat + 1) r_this_one 0 0) else (vp_in x1_3 40 ∧ (if (r_this_one x1_3.toNatClampNeg) = 0 then s_X8_settle_L3 r_this_one fuel (x1_3 + ((-1) : Int32)) else (if 0 ≤ x1_3 then (vp_in x1_3 40 ∧ (if 0 ≤ (r_this_one x1_3.toNatClampNeg) then s_X8_settle_L47  (((39 : Int32).toInt - (0 : Int32).toInt).toNat + 1) r_this_one 0 1 else s_X8_settle_L47  (((39 : Int32).toInt - (0 : Int32).toInt).toNat + 1) r_this_one 0 (-1))) else s_X8_settle_L47  (((39 : Int32).toInt - (0 : Int32).toInt).toNat + 1) r_this_one 0 0))))
def f_X8_settle (r_this_one : Nat → Int32) : Int32 × (Nat → Int32) := f_X8_settle_L3 r_this_one (((39 : Int32).toInt + 1).toNat + 1) 39
def s_X8_settle (r_this_one : Nat → Int32) : Prop := s_X8_settle_L3 r_this_one (((39 : Int32).toInt + 1).toNat + 1) 39
set_option linter.all false in
set_option maxHeartbeats 4000000 in
set_option maxRecDepth 100000 in
theorem c_X8_settle (l : Launch) (D : va_G) (a_this a_this_one a_this_bytes a_this_keys a_this_reg a_this_card a_this_filled a_this_taken a_this_line a_this_two : Nat) (k_this_one : ClassId) (o_this : Int32 × Int32 × Int32 × Int32 × Bool × Bool × Int32 × Int32 × Int32 × Int32 × Bool × Bool × Bool × Int32 × Int32 × Int32 × Int32 × Int32 × Int32 × Int32 × Int32 × Int32 × Int32 × Int32 × Int32) (r_this_one : Nat → Int32) (hs : s_X8_settle r_this_one) : CtI l yX8_settle cX8_settle 6 (some .int) { frames := 0, cells := 0, slots := 0, locals := 0 } D [.ref a_this] [(a_this, oX8 a_this_bytes a_this_keys a_this_reg a_this_card a_this_filled a_this_taken a_this_line a_this_one a_this_two o_this), (a_this_one, .inl (k_this_one, 40, .inl r_this_one))] [(k_this_one, .int)] (fun (r : Int32) (u : Int32 × (Nat → Int32)) => f_X8_settle r_this_one = u ∧ r = u.1) (fun u => [(a_this, oX8 a_this_bytes a_this_keys a_this_reg a_this_card a_this_filled a_this_taken a_this_line a_this_one a_this_two o_this), (a_this_one, .inl (k_this_one, 40, .inl u.2))]) := by
  refine CtI.of (by decide) (Nat.le_of_ble_eq_true rfl) ?_
  intro p e s m below meth c A ls Q hE hP hD hS hl hQ
  obtain ⟨hx, hb, hml, hown, ht, hN, hK, hA⟩ := hE
  have hown : s.vm.findClass RX8 = some m.cls := hown
  have hl : lv_has ls 6 [(0, .ref a_this)] := hl
  obtain ⟨F, hF⟩ : ∃ F, f_X8_settle r_this_one = F := ⟨_, rfl⟩
  rw [hF] at hQ
  unfold f_X8_settle at hF
  unfold s_X8_settle at hs
  refine lv_bipush (v := 39) hx hb dX8_settle_0 (by decide) ?_
  refine lv_istore_n (lv' := [(1, .int 39), (0, .ref a_this)]) hx hb dX8_settle_2 rfl hl (by decide) rfl (fun ls hl => ?_)
  have L3 : ∀ (fuel : Nat) (x1_3 : Int32) (H : Heap) (locs : List Loc) (ls : Array Slot), ((x1_3 : Int32).toInt + 1).toNat < fuel → va_P D vwCl [(a_this, oX8 a_this_bytes a_this_keys a_this_reg a_this_card a_this_filled a_this_taken a_this_line a_this_one a_this_two o_this), (a_this_one, .inl (k_this_one, 40, .inl r_this_one))] H → va_D A [(a_this, oX8 a_this_bytes a_this_keys a_this_reg a_this_card a_this_filled a_this_taken a_this_line a_this_one a_this_two o_this), (a_this_one, .inl (k_this_one, 40, .inl r_this_one))] → va_S A s.heap H locs → lv_has ls 6 [(1, .int x1_3), (0, .ref a_this)] → f_X8_settle_L3 r_this_one fuel x1_3 = F → s_X8_settle_L3 r_this_one fuel x1_3 → W p l e ({ frames := 0, cells := 0, slots := 0, locals := 0 } : Room) s m ([.ref a_this] : List Value).toArray below meth c H locs 0 0 Q (F0 m 3 ls []) := by
    intro fuel
    induction fuel with
    | zero => intro x1_3 H locs ls hm; exact absurd hm (Nat.not_lt_zero _)
    | succ fuel ih =>
      intro x1_3 H locs ls hm  hP hD hS hl hF hs
      rw [f_X8_settle_L3] at hF
      rw [s_X8_settle_L3] at hs
      skip
      refine lv_iload_n hx hb dX8_settle_3 rfl (lv_at hl 0 rfl) ?_
      refine lv_if_lt (tgt := 22) hx hb dX8_settle_4 (by decide) (fun c_2 => ?_) (fun c_2 => ?_)
      · skip
        rw [if_pos c_2] at hF
        rw [if_pos c_2] at hs
        refine lv_iload_n hx hb dX8_settle_22 rfl (lv_at hl 0 rfl) ?_
        refine lv_if_ge (tgt := 30) hx hb dX8_settle_23 (by decide) (fun c_3 => ?_) (fun c_3 => ?_)
        · skip
          rw [if_pos c_3] at hF
          rw [if_pos c_3] at hs
          refine lv_aload_n hx hb dX8_settle_30 rfl (lv_at hl 1 rfl) ?_
          refine gf_X8_31 (v := .ref a_this_one) hx hb hown ht hK hP 0 rfl rfl dX8_settle_31 ?_
          refine lv_iload_n hx hb dX8_settle_34 rfl (lv_at hl 0 rfl) ?_
          obtain ⟨hi_4, hs⟩ := hs
          refine va_iald hx hb hK hP 1 0 rfl rfl hi_4 dX8_settle_35 ?_
          refine lv_if_ge (tgt := 43) hx hb dX8_settle_36 (by decide) (fun c_5 => ?_) (fun c_5 => ?_)
          · skip
            rw [if_pos c_5] at hF
            rw [if_pos c_5] at hs
            refine lv_iconst (v := 1) hx hb dX8_settle_43 (by decide) ?_
            refine lv_istore_n (lv' := [(2, .int 1), (1, .int x1_3), (0, .ref a_this)]) hx hb dX8_settle_44 rfl hl (by decide) rfl (fun ls hl => ?_)
            refine lv_iconst (v := 0) hx hb dX8_settle_45 (by decide) ?_
            refine lv_istore_n (lv' := [(3, .int 0), (2, .int 1), (1, .int x1_3), (0, .ref a_this)]) hx hb dX8_settle_46 rfl hl (by decide) rfl (fun ls hl => ?_)
            have L47 : ∀ (fuel : Nat) (r_this_one_L47 : Nat → Int32) (x3_47 : Int32) (x2_47 : Int32) (H : Heap) (locs : List Loc) (ls : Array Slot), ((39 : Int32).toInt - (x3_47 : Int32).toInt).toNat < fuel → ¬ x3_47 < 0 → va_P D vwCl [(a_this, oX8 a_this_bytes a_this_keys a_this_reg a_this_card a_this_filled a_this_taken a_this_line a_this_one a_this_two o_this), (a_this_one, .inl (k_this_one, 40, .inl r_this_one_L47))] H → va_D A [(a_this, oX8 a_this_bytes a_this_keys a_this_reg a_this_card a_this_filled a_this_taken a_this_line a_this_one a_this_two o_this), (a_this_one, .inl (k_this_one, 40, .inl r_this_one_L47))] → va_S A s.heap H locs → lv_has ls 6 [(3, .int x3_47), (2, .int x2_47), (1, .int x1_3), (0, .ref a_this)] → f_X8_settle_L47 fuel r_this_one_L47 x3_47 x2_47 = F → s_X8_settle_L47  fuel r_this_one_L47 x3_47 x2_47 → W p l e ({ frames := 0, cells := 0, slots := 0, locals := 0 } : Room) s m ([.ref a_this] : List Value).toArray below meth c H locs 0 0 Q (F0 m 47 ls []) := by
              intro fuel
              induction fuel with
              | zero => intro r_this_one_L47 x3_47 x2_47 H locs ls hm; exact absurd hm (Nat.not_lt_zero _)
              | succ fuel ih =>
                intro r_this_one_L47 x3_47 x2_47 H locs ls hm hv hP hD hS hl hF hs
                rw [f_X8_settle_L47] at hF
                rw [s_X8_settle_L47] at hs
                skip
                refine lv_iload_n hx hb dX8_settle_47 rfl (lv_at hl 0 rfl) ?_
                refine lv_bipush (v := 39) hx hb dX8_settle_48 (by decide) ?_
                refine lv_icmp_ge (tgt := 123) hx hb dX8_settle_50 (by decide) (fun c_7 => ?_) (fun c_7 => ?_)
                · skip
                  rw [if_pos c_7] at hF
                  rw [if_pos c_7] at hs
                  refine lv_iload_n hx hb dX8_settle_123 rfl (lv_at hl 1 rfl) ?_
                  exact hQ x2_47 (x2_47, r_this_one_L47) _ _ _ _ dX8_settle_124 ⟨hF.symm, rfl⟩ hP hD hS
                · skip
                  rw [if_neg c_7] at hF
                  rw [if_neg c_7] at hs
                  refine lv_aload_n hx hb dX8_settle_53 rfl (lv_at hl 3 rfl) ?_
                  refine gf_X8_31 (v := .ref a_this_one) hx hb hown ht hK hP 0 rfl rfl dX8_settle_54 ?_
                  refine lv_iload_n hx hb dX8_settle_57 rfl (lv_at hl 0 rfl) ?_
                  obtain ⟨hi_8, hs⟩ := hs
                  refine va_iald hx hb hK hP 1 0 rfl rfl hi_8 dX8_settle_58 ?_
                  refine lv_iload_n hx hb dX8_settle_59 rfl (lv_at hl 1 rfl) ?_
                  refine lv_imul hx hb dX8_settle_60 ?_
                  refine lv_istore (lv' := [(4, .int ((r_this_one_L47 x3_47.toNatClampNeg) * x2_47)), (3, .int x3_47), (2, .int x2_47), (1, .int x1_3), (0, .ref a_this)]) hx hb dX8_settle_61 hl (by decide) rfl (fun ls hl => ?_)
                  refine lv_iload hx hb dX8_settle_63 (lv_at hl 0 rfl) ?_
                  refine lv_bipush (v := 9) hx hb dX8_settle_65 (by decide) ?_
                  refine lv_icmp_le (tgt := 74) hx hb dX8_settle_67 (by decide) (fun c_9 => ?_) (fun c_9 => ?_)
                  · skip
                    rw [if_pos c_9] at hF
                    rw [if_pos c_9] at hs
                    refine lv_iload hx hb dX8_settle_74 (lv_at hl 0 rfl) ?_
                    refine lv_if_ge (tgt := 83) hx hb dX8_settle_76 (by decide) (fun c_10 => ?_) (fun c_10 => ?_)
                    · skip
                      rw [if_pos c_10] at hF
                      rw [if_pos c_10] at hs
                      refine lv_iconst (v := 0) hx hb dX8_settle_83 (by decide) ?_
                      refine lv_istore (lv' := [(5, .int 0), (4, .int ((r_this_one_L47 x3_47.toNatClampNeg) * x2_47)), (3, .int x3_47), (2, .int x2_47), (1, .int x1_3), (0, .ref a_this)]) hx hb dX8_settle_84 hl (by decide) rfl (fun ls hl => ?_)
                      refine lv_aload_n hx hb dX8_settle_86 rfl (lv_at hl 5 rfl) ?_
                      refine gf_X8_31 (v := .ref a_this_one) hx hb hown ht hK hP 0 rfl rfl dX8_settle_87 ?_
                      refine lv_iload_n hx hb dX8_settle_90 rfl (lv_at hl 2 rfl) ?_
                      refine lv_iload hx hb dX8_settle_91 (lv_at hl 1 rfl) ?_
                      refine lv_bipush (v := 10) hx hb dX8_settle_93 (by decide) ?_
                      refine lv_iload hx hb dX8_settle_95 (lv_at hl 0 rfl) ?_
                      refine lv_imul hx hb dX8_settle_97 ?_
                      refine lv_isub hx hb dX8_settle_98 ?_
                      refine lv_iload_n hx hb dX8_settle_99 rfl (lv_at hl 3 rfl) ?_
                      refine lv_imul hx hb dX8_settle_100 ?_
                      obtain ⟨hi_11, hs⟩ := hs
                      refine va_iast hx hb hK hP hD hS 1 0 rfl rfl hi_11 dX8_settle_101 (fun H locs hP hD hS => ?_)
                      have hP : va_P D vwCl [(a_this, oX8 a_this_bytes a_this_keys a_this_reg a_this_card a_this_filled a_this_taken a_this_line a_this_one a_this_two o_this), (a_this_one, .inl (k_this_one, 40, .inl (upd r_this_one_L47 x3_47.toNatClampNeg ((((r_this_one_L47 x3_47.toNatClampNeg) * x2_47) - ((10 : Int32) * (0 : Int32))) * x2_47))))] H := hP
                      have hD : va_D A [(a_this, oX8 a_this_bytes a_this_keys a_this_reg a_this_card a_this_filled a_this_taken a_this_line a_this_one a_this_two o_this), (a_this_one, .inl (k_this_one, 40, .inl (upd r_this_one_L47 x3_47.toNatClampNeg ((((r_this_one_L47 x3_47.toNatClampNeg) * x2_47) - ((10 : Int32) * (0 : Int32))) * x2_47))))] := hD
                      refine lv_aload_n hx hb dX8_settle_102 rfl (lv_at hl 5 rfl) ?_
                      refine gf_X8_31 (v := .ref a_this_one) hx hb hown ht hK hP 0 rfl rfl dX8_settle_103 ?_
                      refine lv_iload_n hx hb dX8_settle_106 rfl (lv_at hl 2 rfl) ?_
                      refine lv_iconst (v := 1) hx hb dX8_settle_107 (by decide) ?_
                      refine lv_iadd hx hb dX8_settle_108 ?_
                      refine lv_dup2_11 hx hb dX8_settle_109 rfl rfl ?_
                      obtain ⟨hi_12, hs⟩ := hs
                      refine va_iald hx hb hK hP 1 0 rfl rfl hi_12 dX8_settle_110 ?_
                      refine lv_iload hx hb dX8_settle_111 (lv_at hl 0 rfl) ?_
                      refine lv_iload_n hx hb dX8_settle_113 rfl (lv_at hl 3 rfl) ?_
                      refine lv_imul hx hb dX8_settle_114 ?_
                      refine lv_iadd hx hb dX8_settle_115 ?_
                      obtain ⟨hi_13, hs⟩ := hs
                      refine va_iast hx hb hK hP hD hS 1 0 rfl rfl hi_13 dX8_settle_116 (fun H locs hP hD hS => ?_)
                      have hP : va_P D vwCl [(a_this, oX8 a_this_bytes a_this_keys a_this_reg a_this_card a_this_filled a_this_taken a_this_line a_this_one a_this_two o_this), (a_this_one, .inl (k_this_one, 40, .inl (upd (upd r_this_one_L47 x3_47.toNatClampNeg ((((r_this_one_L47 x3_47.toNatClampNeg) * x2_47) - ((10 : Int32) * (0 : Int32))) * x2_47)) (x3_47 + (1 : Int32)).toNatClampNeg (((upd r_this_one_L47 x3_47.toNatClampNeg ((((r_this_one_L47 x3_47.toNatClampNeg) * x2_47) - ((10 : Int32) * (0 : Int32))) * x2_47)) (x3_47 + (1 : Int32)).toNatClampNeg) + ((0 : Int32) * x2_47)))))] H := hP
                      have hD : va_D A [(a_this, oX8 a_this_bytes a_this_keys a_this_reg a_this_card a_this_filled a_this_taken a_this_line a_this_one a_this_two o_this), (a_this_one, .inl (k_this_one, 40, .inl (upd (upd r_this_one_L47 x3_47.toNatClampNeg ((((r_this_one_L47 x3_47.toNatClampNeg) * x2_47) - ((10 : Int32) * (0 : Int32))) * x2_47)) (x3_47 + (1 : Int32)).toNatClampNeg (((upd r_this_one_L47 x3_47.toNatClampNeg ((((r_this_one_L47 x3_47.toNatClampNeg) * x2_47) - ((10 : Int32) * (0 : Int32))) * x2_47)) (x3_47 + (1 : Int32)).toNatClampNeg) + ((0 : Int32) * x2_47)))))] := hD
                      refine lv_iinc (v := (x3_47 + (1 : Int32))) (lv' := [(3, .int (x3_47 + (1 : Int32))), (5, .int 0), (4, .int ((r_this_one_L47 x3_47.toNatClampNeg) * x2_47)), (2, .int x2_47), (1, .int x1_3), (0, .ref a_this)]) hx hb dX8_settle_117 hl (k := 2) rfl rfl (by decide) rfl (fun ls hl => ?_)
                      refine lv_goto (tgt := 47) hx hb dX8_settle_120 (by decide) ?_
                      exact ih (upd (upd r_this_one_L47 x3_47.toNatClampNeg ((((r_this_one_L47 x3_47.toNatClampNeg) * x2_47) - ((10 : Int32) * (0 : Int32))) * x2_47)) (x3_47 + (1 : Int32)).toNatClampNeg (((upd r_this_one_L47 x3_47.toNatClampNeg ((((r_this_one_L47 x3_47.toNatClampNeg) * x2_47) - ((10 : Int32) * (0 : Int32))) * x2_47)) (x3_47 + (1 : Int32)).toNatClampNeg) + ((0 : Int32) * x2_47))) (x3_47 + (1 : Int32)) x2_47 _ _ _ (by first | exact q_up hm c_2 | exact q_up hm c_3 | exact q_up hm c_5 | exact q_up hm hv | exact q_up hm c_7 | exact q_up hm c_9 | exact q_up hm c_10) (by first | exact q_upnn hv c_2 | exact q_upnn hv c_3 | exact q_upnn hv c_5 | exact q_upnn hv hv | exact q_upnn hv c_7 | exact q_upnn hv c_9 | exact q_upnn hv c_10) hP hD hS (lv_sub hl [0, 3, 4, 5] rfl) hF hs
                    · skip
                      rw [if_neg c_10] at hF
                      rw [if_neg c_10] at hs
                      refine lv_iconst (v := (-1)) hx hb dX8_settle_79 (by decide) ?_
                      refine lv_goto (tgt := 84) hx hb dX8_settle_80 (by decide) ?_
                      refine lv_istore (lv' := [(5, .int (-1)), (4, .int ((r_this_one_L47 x3_47.toNatClampNeg) * x2_47)), (3, .int x3_47), (2, .int x2_47), (1, .int x1_3), (0, .ref a_this)]) hx hb dX8_settle_84 hl (by decide) rfl (fun ls hl => ?_)
                      refine lv_aload_n hx hb dX8_settle_86 rfl (lv_at hl 5 rfl) ?_
                      refine gf_X8_31 (v := .ref a_this_one) hx hb hown ht hK hP 0 rfl rfl dX8_settle_87 ?_
                      refine lv_iload_n hx hb dX8_settle_90 rfl (lv_at hl 2 rfl) ?_
                      refine lv_iload hx hb dX8_settle_91 (lv_at hl 1 rfl) ?_
                      refine lv_bipush (v := 10) hx hb dX8_settle_93 (by decide) ?_
                      refine lv_iload hx hb dX8_settle_95 (lv_at hl 0 rfl) ?_
                      refine lv_imul hx hb dX8_settle_97 ?_
                      refine lv_isub hx hb dX8_settle_98 ?_
                      refine lv_iload_n hx hb dX8_settle_99 rfl (lv_at hl 3 rfl) ?_
                      refine lv_imul hx hb dX8_settle_100 ?_
                      obtain ⟨hi_14, hs⟩ := hs
                      refine va_iast hx hb hK hP hD hS 1 0 rfl rfl hi_14 dX8_settle_101 (fun H locs hP hD hS => ?_)
                      have hP : va_P D vwCl [(a_this, oX8 a_this_bytes a_this_keys a_this_reg a_this_card a_this_filled a_this_taken a_this_line a_this_one a_this_two o_this), (a_this_one, .inl (k_this_one, 40, .inl (upd r_this_one_L47 x3_47.toNatClampNeg ((((r_this_one_L47 x3_47.toNatClampNeg) * x2_47) - ((10 : Int32) * ((-1) : Int32))) * x2_47))))] H := hP
                      have hD : va_D A [(a_this, oX8 a_this_bytes a_this_keys a_this_reg a_this_card a_this_filled a_this_taken a_this_line a_this_one a_this_two o_this), (a_this_one, .inl (k_this_one, 40, .inl (upd r_this_one_L47 x3_47.toNatClampNeg ((((r_this_one_L47 x3_47.toNatClampNeg) * x2_47) - ((10 : Int32) * ((-1) : Int32))) * x2_47))))] := hD
                      refine lv_aload_n hx hb dX8_settle_102 rfl (lv_at hl 5 rfl) ?_
                      refine gf_X8_31 (v := .ref a_this_one) hx hb hown ht hK hP 0 rfl rfl dX8_settle_103 ?_
                      refine lv_iload_n hx hb dX8_settle_106 rfl (lv_at hl 2 rfl) ?_
                      refine lv_iconst (v := 1) hx hb dX8_settle_107 (by decide) ?_
                      refine lv_iadd hx hb dX8_settle_108 ?_
                      refine lv_dup2_11 hx hb dX8_settle_109 rfl rfl ?_
                      obtain ⟨hi_15, hs⟩ := hs
                      refine va_iald hx hb hK hP 1 0 rfl rfl hi_15 dX8_settle_110 ?_
                      refine lv_iload hx hb dX8_settle_111 (lv_at hl 0 rfl) ?_
                      refine lv_iload_n hx hb dX8_settle_113 rfl (lv_at hl 3 rfl) ?_
                      refine lv_imul hx hb dX8_settle_114 ?_
                      refine lv_iadd hx hb dX8_settle_115 ?_
                      obtain ⟨hi_16, hs⟩ := hs
                      refine va_iast hx hb hK hP hD hS 1 0 rfl rfl hi_16 dX8_settle_116 (fun H locs hP hD hS => ?_)
                      have hP : va_P D vwCl [(a_this, oX8 a_this_bytes a_this_keys a_this_reg a_this_card a_this_filled a_this_taken a_this_line a_this_one a_this_two o_this), (a_this_one, .inl (k_this_one, 40, .inl (upd (upd r_this_one_L47 x3_47.toNatClampNeg ((((r_this_one_L47 x3_47.toNatClampNeg) * x2_47) - ((10 : Int32) * ((-1) : Int32))) * x2_47)) (x3_47 + (1 : Int32)).toNatClampNeg (((upd r_this_one_L47 x3_47.toNatClampNeg ((((r_this_one_L47 x3_47.toNatClampNeg) * x2_47) - ((10 : Int32) * ((-1) : Int32))) * x2_47)) (x3_47 + (1 : Int32)).toNatClampNeg) + (((-1) : Int32) * x2_47)))))] H := hP
                      have hD : va_D A [(a_this, oX8 a_this_bytes a_this_keys a_this_reg a_this_card a_this_filled a_this_taken a_this_line a_this_one a_this_two o_this), (a_this_one, .inl (k_this_one, 40, .inl (upd (upd r_this_one_L47 x3_47.toNatClampNeg ((((r_this_one_L47 x3_47.toNatClampNeg) * x2_47) - ((10 : Int32) * ((-1) : Int32))) * x2_47)) (x3_47 + (1 : Int32)).toNatClampNeg (((upd r_this_one_L47 x3_47.toNatClampNeg ((((r_this_one_L47 x3_47.toNatClampNeg) * x2_47) - ((10 : Int32) * ((-1) : Int32))) * x2_47)) (x3_47 + (1 : Int32)).toNatClampNeg) + (((-1) : Int32) * x2_47)))))] := hD
                      refine lv_iinc (v := (x3_47 + (1 : Int32))) (lv' := [(3, .int (x3_47 + (1 : Int32))), (5, .int (-1)), (4, .int ((r_this_one_L47 x3_47.toNatClampNeg) * x2_47)), (2, .int x2_47), (1, .int x1_3), (0, .ref a_this)]) hx hb dX8_settle_117 hl (k := 2) rfl rfl (by decide) rfl (fun ls hl => ?_)
                      refine lv_goto (tgt := 47) hx hb dX8_settle_120 (by decide) ?_
                      exact ih (upd (upd r_this_one_L47 x3_47.toNatClampNeg ((((r_this_one_L47 x3_47.toNatClampNeg) * x2_47) - ((10 : Int32) * ((-1) : Int32))) * x2_47)) (x3_47 + (1 : Int32)).toNatClampNeg (((upd r_this_one_L47 x3_47.toNatClampNeg ((((r_this_one_L47 x3_47.toNatClampNeg) * x2_47) - ((10 : Int32) * ((-1) : Int32))) * x2_47)) (x3_47 + (1 : Int32)).toNatClampNeg) + (((-1) : Int32) * x2_47))) (x3_47 + (1 : Int32)) x2_47 _ _ _ (by first | exact q_up hm c_2 | exact q_up hm c_3 | exact q_up hm c_5 | exact q_up hm hv | exact q_up hm c_7 | exact q_up hm c_9 | exact q_up hm c_10) (by first | exact q_upnn hv c_2 | exact q_upnn hv c_3 | exact q_upnn hv c_5 | exact q_upnn hv hv | exact q_upnn hv c_7 | exact q_upnn hv c_9 | exact q_upnn hv c_10) hP hD hS (lv_sub hl [0, 3, 4, 5] rfl) hF hs
                  · skip
                    rw [if_neg c_9] at hF
                    rw [if_neg c_9] at hs
                    refine lv_iconst (v := 1) hx hb dX8_settle_70 (by decide) ?_
                    refine lv_goto (tgt := 84) hx hb dX8_settle_71 (by decide) ?_
                    refine lv_istore (lv' := [(5, .int 1), (4, .int ((r_this_one_L47 x3_47.toNatClampNeg) * x2_47)), (3, .int x3_47), (2, .int x2_47), (1, .int x1_3), (0, .ref a_this)]) hx hb dX8_settle_84 hl (by decide) rfl (fun ls hl => ?_)
                    refine lv_aload_n hx hb dX8_settle_86 rfl (lv_at hl 5 rfl) ?_
                    refine gf_X8_31 (v := .ref a_this_one) hx hb hown ht hK hP 0 rfl rfl dX8_settle_87 ?_
                    refine lv_iload_n hx hb dX8_settle_90 rfl (lv_at hl 2 rfl) ?_
                    refine lv_iload hx hb dX8_settle_91 (lv_at hl 1 rfl) ?_
                    refine lv_bipush (v := 10) hx hb dX8_settle_93 (by decide) ?_
                    refine lv_iload hx hb dX8_settle_95 (lv_at hl 0 rfl) ?_
                    refine lv_imul hx hb dX8_settle_97 ?_
                    refine lv_isub hx hb dX8_settle_98 ?_
                    refine lv_iload_n hx hb dX8_settle_99 rfl (lv_at hl 3 rfl) ?_
                    refine lv_imul hx hb dX8_settle_100 ?_
                    obtain ⟨hi_17, hs⟩ := hs
                    refine va_iast hx hb hK hP hD hS 1 0 rfl rfl hi_17 dX8_settle_101 (fun H locs hP hD hS => ?_)
                    have hP : va_P D vwCl [(a_this, oX8 a_this_bytes a_this_keys a_this_reg a_this_card a_this_filled a_this_taken a_this_line a_this_one a_this_two o_this), (a_this_one, .inl (k_this_one, 40, .inl (upd r_this_one_L47 x3_47.toNatClampNeg ((((r_this_one_L47 x3_47.toNatClampNeg) * x2_47) - ((10 : Int32) * (1 : Int32))) * x2_47))))] H := hP
                    have hD : va_D A [(a_this, oX8 a_this_bytes a_this_keys a_this_reg a_this_card a_this_filled a_this_taken a_this_line a_this_one a_this_two o_this), (a_this_one, .inl (k_this_one, 40, .inl (upd r_this_one_L47 x3_47.toNatClampNeg ((((r_this_one_L47 x3_47.toNatClampNeg) * x2_47) - ((10 : Int32) * (1 : Int32))) * x2_47))))] := hD
                    refine lv_aload_n hx hb dX8_settle_102 rfl (lv_at hl 5 rfl) ?_
                    refine gf_X8_31 (v := .ref a_this_one) hx hb hown ht hK hP 0 rfl rfl dX8_settle_103 ?_
                    refine lv_iload_n hx hb dX8_settle_106 rfl (lv_at hl 2 rfl) ?_
                    refine lv_iconst (v := 1) hx hb dX8_settle_107 (by decide) ?_
                    refine lv_iadd hx hb dX8_settle_108 ?_
                    refine lv_dup2_11 hx hb dX8_settle_109 rfl rfl ?_
                    obtain ⟨hi_18, hs⟩ := hs
                    refine va_iald hx hb hK hP 1 0 rfl rfl hi_18 dX8_settle_110 ?_
                    refine lv_iload hx hb dX8_settle_111 (lv_at hl 0 rfl) ?_
                    refine lv_iload_n hx hb dX8_settle_113 rfl (lv_at hl 3 rfl) ?_
                    refine lv_imul hx hb dX8_settle_114 ?_
                    refine lv_iadd hx hb dX8_settle_115 ?_
                    obtain ⟨hi_19, hs⟩ := hs
                    refine va_iast hx hb hK hP hD hS 1 0 rfl rfl hi_19 dX8_settle_116 (fun H locs hP hD hS => ?_)
                    have hP : va_P D vwCl [(a_this, oX8 a_this_bytes a_this_keys a_this_reg a_this_card a_this_filled a_this_taken a_this_line a_this_one a_this_two o_this), (a_this_one, .inl (k_this_one, 40, .inl (upd (upd r_this_one_L47 x3_47.toNatClampNeg ((((r_this_one_L47 x3_47.toNatClampNeg) * x2_47) - ((10 : Int32) * (1 : Int32))) * x2_47)) (x3_47 + (1 : Int32)).toNatClampNeg (((upd r_this_one_L47 x3_47.toNatClampNeg ((((r_this_one_L47 x3_47.toNatClampNeg) * x2_47) - ((10 : Int32) * (1 : Int32))) * x2_47)) (x3_47 + (1 : Int32)).toNatClampNeg) + ((1 : Int32) * x2_47)))))] H := hP
                    have hD : va_D A [(a_this, oX8 a_this_bytes a_this_keys a_this_reg a_this_card a_this_filled a_this_taken a_this_line a_this_one a_this_two o_this), (a_this_one, .inl (k_this_one, 40, .inl (upd (upd r_this_one_L47 x3_47.toNatClampNeg ((((r_this_one_L47 x3_47.toNatClampNeg) * x2_47) - ((10 : Int32) * (1 : Int32))) * x2_47)) (x3_47 + (1 : Int32)).toNatClampNeg (((upd r_this_one_L47 x3_47.toNatClampNeg ((((r_this_one_L47 x3_47.toNatClampNeg) * x2_47) - ((10 : Int32) * (1 : Int32))) * x2_47)) (x3_47 + (1 : Int32)).toNatClampNeg) + ((1 : Int32) * x2_47)))))] := hD
                    refine lv_iinc (v := (x3_47 + (1 : Int32))) (lv' := [(3, .int (x3_47 + (1 : Int32))), (5, .int 1), (4, .int ((r_this_one_L47 x3_47.toNatClampNeg) * x2_47)), (2, .int x2_47), (1, .int x1_3), (0, .ref a_this)]) hx hb dX8_settle_117 hl (k := 2) rfl rfl (by decide) rfl (fun ls hl => ?_)
                    refine lv_goto (tgt := 47) hx hb dX8_settle_120 (by decide) ?_
                    exact ih (upd (upd r_this_one_L47 x3_47.toNatClampNeg ((((r_this_one_L47 x3_47.toNatClampNeg) * x2_47) - ((10 : Int32) * (1 : Int32))) * x2_47)) (x3_47 + (1 : Int32)).toNatClampNeg (((upd r_this_one_L47 x3_47.toNatClampNeg ((((r_this_one_L47 x3_47.toNatClampNeg) * x2_47) - ((10 : Int32) * (1 : Int32))) * x2_47)) (x3_47 + (1 : Int32)).toNatClampNeg) + ((1 : Int32) * x2_47))) (x3_47 + (1 : Int32)) x2_47 _ _ _ (by first | exact q_up hm c_2 | exact q_up hm c_3 | exact q_up hm c_5 | exact q_up hm hv | exact q_up hm c_7 | exact q_up hm c_9) (by first | exact q_upnn hv c_2 | exact q_upnn hv c_3 | exact q_upnn hv c_5 | exact q_upnn hv hv | exact q_upnn hv c_7 | exact q_upnn hv c_9) hP hD hS (lv_sub hl [0, 3, 4, 5] rfl) hF hs
            exact L47 (((39 : Int32).toInt - (0 : Int32).toInt).toNat + 1) r_this_one 0 1 _ _ _ (Nat.lt_succ_self _) (by decide) hP hD hS (lv_sub hl [0, 1, 2, 3] rfl) hF hs
          · skip
            rw [if_neg c_5] at hF
            rw [if_neg c_5] at hs
            refine lv_iconst (v := (-1)) hx hb dX8_settle_39 (by decide) ?_
            refine lv_goto (tgt := 44) hx hb dX8_settle_40 (by decide) ?_
            refine lv_istore_n (lv' := [(2, .int (-1)), (1, .int x1_3), (0, .ref a_this)]) hx hb dX8_settle_44 rfl hl (by decide) rfl (fun ls hl => ?_)
            refine lv_iconst (v := 0) hx hb dX8_settle_45 (by decide) ?_
            refine lv_istore_n (lv' := [(3, .int 0), (2, .int (-1)), (1, .int x1_3), (0, .ref a_this)]) hx hb dX8_settle_46 rfl hl (by decide) rfl (fun ls hl => ?_)
            have L47 : ∀ (fuel : Nat) (r_this_one_L47 : Nat → Int32) (x3_47 : Int32) (x2_47 : Int32) (H : Heap) (locs : List Loc) (ls : Array Slot), ((39 : Int32).toInt - (x3_47 : Int32).toInt).toNat < fuel → ¬ x3_47 < 0 → va_P D vwCl [(a_this, oX8 a_this_bytes a_this_keys a_this_reg a_this_card a_this_filled a_this_taken a_this_line a_this_one a_this_two o_this), (a_this_one, .inl (k_this_one, 40, .inl r_this_one_L47))] H → va_D A [(a_this, oX8 a_this_bytes a_this_keys a_this_reg a_this_card a_this_filled a_this_taken a_this_line a_this_one a_this_two o_this), (a_this_one, .inl (k_this_one, 40, .inl r_this_one_L47))] → va_S A s.heap H locs → lv_has ls 6 [(3, .int x3_47), (2, .int x2_47), (1, .int x1_3), (0, .ref a_this)] → f_X8_settle_L47 fuel r_this_one_L47 x3_47 x2_47 = F → s_X8_settle_L47  fuel r_this_one_L47 x3_47 x2_47 → W p l e ({ frames := 0, cells := 0, slots := 0, locals := 0 } : Room) s m ([.ref a_this] : List Value).toArray below meth c H locs 0 0 Q (F0 m 47 ls []) := by
              intro fuel
              induction fuel with
              | zero => intro r_this_one_L47 x3_47 x2_47 H locs ls hm; exact absurd hm (Nat.not_lt_zero _)
              | succ fuel ih =>
                intro r_this_one_L47 x3_47 x2_47 H locs ls hm hv hP hD hS hl hF hs
                rw [f_X8_settle_L47] at hF
                rw [s_X8_settle_L47] at hs
                skip
                refine lv_iload_n hx hb dX8_settle_47 rfl (lv_at hl 0 rfl) ?_
                refine lv_bipush (v := 39) hx hb dX8_settle_48 (by decide) ?_
                refine lv_icmp_ge (tgt := 123) hx hb dX8_settle_50 (by decide) (fun c_21 => ?_) (fun c_21 => ?_)
                · skip
                  rw [if_pos c_21] at hF
                  rw [if_pos c_21] at hs
                  refine lv_iload_n hx hb dX8_settle_123 rfl (lv_at hl 1 rfl) ?_
                  exact hQ x2_47 (x2_47, r_this_one_L47) _ _ _ _ dX8_settle_124 ⟨hF.symm, rfl⟩ hP hD hS
                · skip
                  rw [if_neg c_21] at hF
                  rw [if_neg c_21] at hs
                  refine lv_aload_n hx hb dX8_settle_53 rfl (lv_at hl 3 rfl) ?_
                  refine gf_X8_31 (v := .ref a_this_one) hx hb hown ht hK hP 0 rfl rfl dX8_settle_54 ?_
                  refine lv_iload_n hx hb dX8_settle_57 rfl (lv_at hl 0 rfl) ?_
                  obtain ⟨hi_22, hs⟩ := hs
                  refine va_iald hx hb hK hP 1 0 rfl rfl hi_22 dX8_settle_58 ?_
                  refine lv_iload_n hx hb dX8_settle_59 rfl (lv_at hl 1 rfl) ?_
                  refine lv_imul hx hb dX8_settle_60 ?_
                  refine lv_istore (lv' := [(4, .int ((r_this_one_L47 x3_47.toNatClampNeg) * x2_47)), (3, .int x3_47), (2, .int x2_47), (1, .int x1_3), (0, .ref a_this)]) hx hb dX8_settle_61 hl (by decide) rfl (fun ls hl => ?_)
                  refine lv_iload hx hb dX8_settle_63 (lv_at hl 0 rfl) ?_
                  refine lv_bipush (v := 9) hx hb dX8_settle_65 (by decide) ?_
                  refine lv_icmp_le (tgt := 74) hx hb dX8_settle_67 (by decide) (fun c_23 => ?_) (fun c_23 => ?_)
                  · skip
                    rw [if_pos c_23] at hF
                    rw [if_pos c_23] at hs
                    refine lv_iload hx hb dX8_settle_74 (lv_at hl 0 rfl) ?_
                    refine lv_if_ge (tgt := 83) hx hb dX8_settle_76 (by decide) (fun c_24 => ?_) (fun c_24 => ?_)
                    · skip
                      rw [if_pos c_24] at hF
                      rw [if_pos c_24] at hs
                      refine lv_iconst (v := 0) hx hb dX8_settle_83 (by decide) ?_
                      refine lv_istore (lv' := [(5, .int 0), (4, .int ((r_this_one_L47 x3_47.toNatClampNeg) * x2_47)), (3, .int x3_47), (2, .int x2_47), (1, .int x1_3), (0, .ref a_this)]) hx hb dX8_settle_84 hl (by decide) rfl (fun ls hl => ?_)
                      refine lv_aload_n hx hb dX8_settle_86 rfl (lv_at hl 5 rfl) ?_
                      refine gf_X8_31 (v := .ref a_this_one) hx hb hown ht hK hP 0 rfl rfl dX8_settle_87 ?_
                      refine lv_iload_n hx hb dX8_settle_90 rfl (lv_at hl 2 rfl) ?_
                      refine lv_iload hx hb dX8_settle_91 (lv_at hl 1 rfl) ?_
                      refine lv_bipush (v := 10) hx hb dX8_settle_93 (by decide) ?_
                      refine lv_iload hx hb dX8_settle_95 (lv_at hl 0 rfl) ?_
                      refine lv_imul hx hb dX8_settle_97 ?_
                      refine lv_isub hx hb dX8_settle_98 ?_
                      refine lv_iload_n hx hb dX8_settle_99 rfl (lv_at hl 3 rfl) ?_
                      refine lv_imul hx hb dX8_settle_100 ?_
                      obtain ⟨hi_25, hs⟩ := hs
                      refine va_iast hx hb hK hP hD hS 1 0 rfl rfl hi_25 dX8_settle_101 (fun H locs hP hD hS => ?_)
                      have hP : va_P D vwCl [(a_this, oX8 a_this_bytes a_this_keys a_this_reg a_this_card a_this_filled a_this_taken a_this_line a_this_one a_this_two o_this), (a_this_one, .inl (k_this_one, 40, .inl (upd r_this_one_L47 x3_47.toNatClampNeg ((((r_this_one_L47 x3_47.toNatClampNeg) * x2_47) - ((10 : Int32) * (0 : Int32))) * x2_47))))] H := hP
                      have hD : va_D A [(a_this, oX8 a_this_bytes a_this_keys a_this_reg a_this_card a_this_filled a_this_taken a_this_line a_this_one a_this_two o_this), (a_this_one, .inl (k_this_one, 40, .inl (upd r_this_one_L47 x3_47.toNatClampNeg ((((r_this_one_L47 x3_47.toNatClampNeg) * x2_47) - ((10 : Int32) * (0 : Int32))) * x2_47))))] := hD
                      refine lv_aload_n hx hb dX8_settle_102 rfl (lv_at hl 5 rfl) ?_
                      refine gf_X8_31 (v := .ref a_this_one) hx hb hown ht hK hP 0 rfl rfl dX8_settle_103 ?_
                      refine lv_iload_n hx hb dX8_settle_106 rfl (lv_at hl 2 rfl) ?_
                      refine lv_iconst (v := 1) hx hb dX8_settle_107 (by decide) ?_
                      refine lv_iadd hx hb dX8_settle_108 ?_
                      refine lv_dup2_11 hx hb dX8_settle_109 rfl rfl ?_
                      obtain ⟨hi_26, hs⟩ := hs
                      refine va_iald hx hb hK hP 1 0 rfl rfl hi_26 dX8_settle_110 ?_
                      refine lv_iload hx hb dX8_settle_111 (lv_at hl 0 rfl) ?_
                      refine lv_iload_n hx hb dX8_settle_113 rfl (lv_at hl 3 rfl) ?_
                      refine lv_imul hx hb dX8_settle_114 ?_
                      refine lv_iadd hx hb dX8_settle_115 ?_
                      obtain ⟨hi_27, hs⟩ := hs
                      refine va_iast hx hb hK hP hD hS 1 0 rfl rfl hi_27 dX8_settle_116 (fun H locs hP hD hS => ?_)
                      have hP : va_P D vwCl [(a_this, oX8 a_this_bytes a_this_keys a_this_reg a_this_card a_this_filled a_this_taken a_this_line a_this_one a_this_two o_this), (a_this_one, .inl (k_this_one, 40, .inl (upd (upd r_this_one_L47 x3_47.toNatClampNeg ((((r_this_one_L47 x3_47.toNatClampNeg) * x2_47) - ((10 : Int32) * (0 : Int32))) * x2_47)) (x3_47 + (1 : Int32)).toNatClampNeg (((upd r_this_one_L47 x3_47.toNatClampNeg ((((r_this_one_L47 x3_47.toNatClampNeg) * x2_47) - ((10 : Int32) * (0 : Int32))) * x2_47)) (x3_47 + (1 : Int32)).toNatClampNeg) + ((0 : Int32) * x2_47)))))] H := hP
                      have hD : va_D A [(a_this, oX8 a_this_bytes a_this_keys a_this_reg a_this_card a_this_filled a_this_taken a_this_line a_this_one a_this_two o_this), (a_this_one, .inl (k_this_one, 40, .inl (upd (upd r_this_one_L47 x3_47.toNatClampNeg ((((r_this_one_L47 x3_47.toNatClampNeg) * x2_47) - ((10 : Int32) * (0 : Int32))) * x2_47)) (x3_47 + (1 : Int32)).toNatClampNeg (((upd r_this_one_L47 x3_47.toNatClampNeg ((((r_this_one_L47 x3_47.toNatClampNeg) * x2_47) - ((10 : Int32) * (0 : Int32))) * x2_47)) (x3_47 + (1 : Int32)).toNatClampNeg) + ((0 : Int32) * x2_47)))))] := hD
                      refine lv_iinc (v := (x3_47 + (1 : Int32))) (lv' := [(3, .int (x3_47 + (1 : Int32))), (5, .int 0), (4, .int ((r_this_one_L47 x3_47.toNatClampNeg) * x2_47)), (2, .int x2_47), (1, .int x1_3), (0, .ref a_this)]) hx hb dX8_settle_117 hl (k := 2) rfl rfl (by decide) rfl (fun ls hl => ?_)
                      refine lv_goto (tgt := 47) hx hb dX8_settle_120 (by decide) ?_
                      exact ih (upd (upd r_this_one_L47 x3_47.toNatClampNeg ((((r_this_one_L47 x3_47.toNatClampNeg) * x2_47) - ((10 : Int32) * (0 : Int32))) * x2_47)) (x3_47 + (1 : Int32)).toNatClampNeg (((upd r_this_one_L47 x3_47.toNatClampNeg ((((r_this_one_L47 x3_47.toNatClampNeg) * x2_47) - ((10 : Int32) * (0 : Int32))) * x2_47)) (x3_47 + (1 : Int32)).toNatClampNeg) + ((0 : Int32) * x2_47))) (x3_47 + (1 : Int32)) x2_47 _ _ _ (by first | exact q_up hm c_2 | exact q_up hm c_3 | exact q_up hm c_5 | exact q_up hm hv | exact q_up hm c_21 | exact q_up hm c_23 | exact q_up hm c_24) (by first | exact q_upnn hv c_2 | exact q_upnn hv c_3 | exact q_upnn hv c_5 | exact q_upnn hv hv | exact q_upnn hv c_21 | exact q_upnn hv c_23 | exact q_upnn hv c_24) hP hD hS (lv_sub hl [0, 3, 4, 5] rfl) hF hs
                    · skip
                      rw [if_neg c_24] at hF
                      rw [if_neg c_24] at hs
                      refine lv_iconst (v := (-1)) hx hb dX8_settle_79 (by decide) ?_
                      refine lv_goto (tgt := 84) hx hb dX8_settle_80 (by decide) ?_
                      refine lv_istore (lv' := [(5, .int (-1)), (4, .int ((r_this_one_L47 x3_47.toNatClampNeg) * x2_47)), (3, .int x3_47), (2, .int x2_47), (1, .int x1_3), (0, .ref a_this)]) hx hb dX8_settle_84 hl (by decide) rfl (fun ls hl => ?_)
                      refine lv_aload_n hx hb dX8_settle_86 rfl (lv_at hl 5 rfl) ?_
                      refine gf_X8_31 (v := .ref a_this_one) hx hb hown ht hK hP 0 rfl rfl dX8_settle_87 ?_
                      refine lv_iload_n hx hb dX8_settle_90 rfl (lv_at hl 2 rfl) ?_
                      refine lv_iload hx hb dX8_settle_91 (lv_at hl 1 rfl) ?_
                      refine lv_bipush (v := 10) hx hb dX8_settle_93 (by decide) ?_
                      refine lv_iload hx hb dX8_settle_95 (lv_at hl 0 rfl) ?_
                      refine lv_imul hx hb dX8_settle_97 ?_
                      refine lv_isub hx hb dX8_settle_98 ?_
                      refine lv_iload_n hx hb dX8_settle_99 rfl (lv_at hl 3 rfl) ?_
                      refine lv_imul hx hb dX8_settle_100 ?_
                      obtain ⟨hi_28, hs⟩ := hs
                      refine va_iast hx hb hK hP hD hS 1 0 rfl rfl hi_28 dX8_settle_101 (fun H locs hP hD hS => ?_)
                      have hP : va_P D vwCl [(a_this, oX8 a_this_bytes a_this_keys a_this_reg a_this_card a_this_filled a_this_taken a_this_line a_this_one a_this_two o_this), (a_this_one, .inl (k_this_one, 40, .inl (upd r_this_one_L47 x3_47.toNatClampNeg ((((r_this_one_L47 x3_47.toNatClampNeg) * x2_47) - ((10 : Int32) * ((-1) : Int32))) * x2_47))))] H := hP
                      have hD : va_D A [(a_this, oX8 a_this_bytes a_this_keys a_this_reg a_this_card a_this_filled a_this_taken a_this_line a_this_one a_this_two o_this), (a_this_one, .inl (k_this_one, 40, .inl (upd r_this_one_L47 x3_47.toNatClampNeg ((((r_this_one_L47 x3_47.toNatClampNeg) * x2_47) - ((10 : Int32) * ((-1) : Int32))) * x2_47))))] := hD
                      refine lv_aload_n hx hb dX8_settle_102 rfl (lv_at hl 5 rfl) ?_
                      refine gf_X8_31 (v := .ref a_this_one) hx hb hown ht hK hP 0 rfl rfl dX8_settle_103 ?_
                      refine lv_iload_n hx hb dX8_settle_106 rfl (lv_at hl 2 rfl) ?_
                      refine lv_iconst (v := 1) hx hb dX8_settle_107 (by decide) ?_
                      refine lv_iadd hx hb dX8_settle_108 ?_
                      refine lv_dup2_11 hx hb dX8_settle_109 rfl rfl ?_
                      obtain ⟨hi_29, hs⟩ := hs
                      refine va_iald hx hb hK hP 1 0 rfl rfl hi_29 dX8_settle_110 ?_
                      refine lv_iload hx hb dX8_settle_111 (lv_at hl 0 rfl) ?_
                      refine lv_iload_n hx hb dX8_settle_113 rfl (lv_at hl 3 rfl) ?_
                      refine lv_imul hx hb dX8_settle_114 ?_
                      refine lv_iadd hx hb dX8_settle_115 ?_
                      obtain ⟨hi_30, hs⟩ := hs
                      refine va_iast hx hb hK hP hD hS 1 0 rfl rfl hi_30 dX8_settle_116 (fun H locs hP hD hS => ?_)
                      have hP : va_P D vwCl [(a_this, oX8 a_this_bytes a_this_keys a_this_reg a_this_card a_this_filled a_this_taken a_this_line a_this_one a_this_two o_this), (a_this_one, .inl (k_this_one, 40, .inl (upd (upd r_this_one_L47 x3_47.toNatClampNeg ((((r_this_one_L47 x3_47.toNatClampNeg) * x2_47) - ((10 : Int32) * ((-1) : Int32))) * x2_47)) (x3_47 + (1 : Int32)).toNatClampNeg (((upd r_this_one_L47 x3_47.toNatClampNeg ((((r_this_one_L47 x3_47.toNatClampNeg) * x2_47) - ((10 : Int32) * ((-1) : Int32))) * x2_47)) (x3_47 + (1 : Int32)).toNatClampNeg) + (((-1) : Int32) * x2_47)))))] H := hP
                      have hD : va_D A [(a_this, oX8 a_this_bytes a_this_keys a_this_reg a_this_card a_this_filled a_this_taken a_this_line a_this_one a_this_two o_this), (a_this_one, .inl (k_this_one, 40, .inl (upd (upd r_this_one_L47 x3_47.toNatClampNeg ((((r_this_one_L47 x3_47.toNatClampNeg) * x2_47) - ((10 : Int32) * ((-1) : Int32))) * x2_47)) (x3_47 + (1 : Int32)).toNatClampNeg (((upd r_this_one_L47 x3_47.toNatClampNeg ((((r_this_one_L47 x3_47.toNatClampNeg) * x2_47) - ((10 : Int32) * ((-1) : Int32))) * x2_47)) (x3_47 + (1 : Int32)).toNatClampNeg) + (((-1) : Int32) * x2_47)))))] := hD
                      refine lv_iinc (v := (x3_47 + (1 : Int32))) (lv' := [(3, .int (x3_47 + (1 : Int32))), (5, .int (-1)), (4, .int ((r_this_one_L47 x3_47.toNatClampNeg) * x2_47)), (2, .int x2_47), (1, .int x1_3), (0, .ref a_this)]) hx hb dX8_settle_117 hl (k := 2) rfl rfl (by decide) rfl (fun ls hl => ?_)
                      refine lv_goto (tgt := 47) hx hb dX8_settle_120 (by decide) ?_
                      exact ih (upd (upd r_this_one_L47 x3_47.toNatClampNeg ((((r_this_one_L47 x3_47.toNatClampNeg) * x2_47) - ((10 : Int32) * ((-1) : Int32))) * x2_47)) (x3_47 + (1 : Int32)).toNatClampNeg (((upd r_this_one_L47 x3_47.toNatClampNeg ((((r_this_one_L47 x3_47.toNatClampNeg) * x2_47) - ((10 : Int32) * ((-1) : Int32))) * x2_47)) (x3_47 + (1 : Int32)).toNatClampNeg) + (((-1) : Int32) * x2_47))) (x3_47 + (1 : Int32)) x2_47 _ _ _ (by first | exact q_up hm c_2 | exact q_up hm c_3 | exact q_up hm c_5 | exact q_up hm hv | exact q_up hm c_21 | exact q_up hm c_23 | exact q_up hm c_24) (by first | exact q_upnn hv c_2 | exact q_upnn hv c_3 | exact q_upnn hv c_5 | exact q_upnn hv hv | exact q_upnn hv c_21 | exact q_upnn hv c_23 | exact q_upnn hv c_24) hP hD hS (lv_sub hl [0, 3, 4, 5] rfl) hF hs
                  · skip
                    rw [if_neg c_23] at hF
                    rw [if_neg c_23] at hs
                    refine lv_iconst (v := 1) hx hb dX8_settle_70 (by decide) ?_
                    refine lv_goto (tgt := 84) hx hb dX8_settle_71 (by decide) ?_
                    refine lv_istore (lv' := [(5, .int 1), (4, .int ((r_this_one_L47 x3_47.toNatClampNeg) * x2_47)), (3, .int x3_47), (2, .int x2_47), (1, .int x1_3), (0, .ref a_this)]) hx hb dX8_settle_84 hl (by decide) rfl (fun ls hl => ?_)
                    refine lv_aload_n hx hb dX8_settle_86 rfl (lv_at hl 5 rfl) ?_
                    refine gf_X8_31 (v := .ref a_this_one) hx hb hown ht hK hP 0 rfl rfl dX8_settle_87 ?_
                    refine lv_iload_n hx hb dX8_settle_90 rfl (lv_at hl 2 rfl) ?_
                    refine lv_iload hx hb dX8_settle_91 (lv_at hl 1 rfl) ?_
                    refine lv_bipush (v := 10) hx hb dX8_settle_93 (by decide) ?_
                    refine lv_iload hx hb dX8_settle_95 (lv_at hl 0 rfl) ?_
                    refine lv_imul hx hb dX8_settle_97 ?_
                    refine lv_isub hx hb dX8_settle_98 ?_
                    refine lv_iload_n hx hb dX8_settle_99 rfl (lv_at hl 3 rfl) ?_
                    refine lv_imul hx hb dX8_settle_100 ?_
                    obtain ⟨hi_31, hs⟩ := hs
                    refine va_iast hx hb hK hP hD hS 1 0 rfl rfl hi_31 dX8_settle_101 (fun H locs hP hD hS => ?_)
                    have hP : va_P D vwCl [(a_this, oX8 a_this_bytes a_this_keys a_this_reg a_this_card a_this_filled a_this_taken a_this_line a_this_one a_this_two o_this), (a_this_one, .inl (k_this_one, 40, .inl (upd r_this_one_L47 x3_47.toNatClampNeg ((((r_this_one_L47 x3_47.toNatClampNeg) * x2_47) - ((10 : Int32) * (1 : Int32))) * x2_47))))] H := hP
                    have hD : va_D A [(a_this, oX8 a_this_bytes a_this_keys a_this_reg a_this_card a_this_filled a_this_taken a_this_line a_this_one a_this_two o_this), (a_this_one, .inl (k_this_one, 40, .inl (upd r_this_one_L47 x3_47.toNatClampNeg ((((r_this_one_L47 x3_47.toNatClampNeg) * x2_47) - ((10 : Int32) * (1 : Int32))) * x2_47))))] := hD
                    refine lv_aload_n hx hb dX8_settle_102 rfl (lv_at hl 5 rfl) ?_
                    refine gf_X8_31 (v := .ref a_this_one) hx hb hown ht hK hP 0 rfl rfl dX8_settle_103 ?_
                    refine lv_iload_n hx hb dX8_settle_106 rfl (lv_at hl 2 rfl) ?_
                    refine lv_iconst (v := 1) hx hb dX8_settle_107 (by decide) ?_
                    refine lv_iadd hx hb dX8_settle_108 ?_
                    refine lv_dup2_11 hx hb dX8_settle_109 rfl rfl ?_
                    obtain ⟨hi_32, hs⟩ := hs
                    refine va_iald hx hb hK hP 1 0 rfl rfl hi_32 dX8_settle_110 ?_
                    refine lv_iload hx hb dX8_settle_111 (lv_at hl 0 rfl) ?_
                    refine lv_iload_n hx hb dX8_settle_113 rfl (lv_at hl 3 rfl) ?_
                    refine lv_imul hx hb dX8_settle_114 ?_
                    refine lv_iadd hx hb dX8_settle_115 ?_
                    obtain ⟨hi_33, hs⟩ := hs
                    refine va_iast hx hb hK hP hD hS 1 0 rfl rfl hi_33 dX8_settle_116 (fun H locs hP hD hS => ?_)
                    have hP : va_P D vwCl [(a_this, oX8 a_this_bytes a_this_keys a_this_reg a_this_card a_this_filled a_this_taken a_this_line a_this_one a_this_two o_this), (a_this_one, .inl (k_this_one, 40, .inl (upd (upd r_this_one_L47 x3_47.toNatClampNeg ((((r_this_one_L47 x3_47.toNatClampNeg) * x2_47) - ((10 : Int32) * (1 : Int32))) * x2_47)) (x3_47 + (1 : Int32)).toNatClampNeg (((upd r_this_one_L47 x3_47.toNatClampNeg ((((r_this_one_L47 x3_47.toNatClampNeg) * x2_47) - ((10 : Int32) * (1 : Int32))) * x2_47)) (x3_47 + (1 : Int32)).toNatClampNeg) + ((1 : Int32) * x2_47)))))] H := hP
                    have hD : va_D A [(a_this, oX8 a_this_bytes a_this_keys a_this_reg a_this_card a_this_filled a_this_taken a_this_line a_this_one a_this_two o_this), (a_this_one, .inl (k_this_one, 40, .inl (upd (upd r_this_one_L47 x3_47.toNatClampNeg ((((r_this_one_L47 x3_47.toNatClampNeg) * x2_47) - ((10 : Int32) * (1 : Int32))) * x2_47)) (x3_47 + (1 : Int32)).toNatClampNeg (((upd r_this_one_L47 x3_47.toNatClampNeg ((((r_this_one_L47 x3_47.toNatClampNeg) * x2_47) - ((10 : Int32) * (1 : Int32))) * x2_47)) (x3_47 + (1 : Int32)).toNatClampNeg) + ((1 : Int32) * x2_47)))))] := hD
                    refine lv_iinc (v := (x3_47 + (1 : Int32))) (lv' := [(3, .int (x3_47 + (1 : Int32))), (5, .int 1), (4, .int ((r_this_one_L47 x3_47.toNatClampNeg) * x2_47)), (2, .int x2_47), (1, .int x1_3), (0, .ref a_this)]) hx hb dX8_settle_117 hl (k := 2) rfl rfl (by decide) rfl (fun ls hl => ?_)
                    refine lv_goto (tgt := 47) hx hb dX8_settle_120 (by decide) ?_
                    exact ih (upd (upd r_this_one_L47 x3_47.toNatClampNeg ((((r_this_one_L47 x3_47.toNatClampNeg) * x2_47) - ((10 : Int32) * (1 : Int32))) * x2_47)) (x3_47 + (1 : Int32)).toNatClampNeg (((upd r_this_one_L47 x3_47.toNatClampNeg ((((r_this_one_L47 x3_47.toNatClampNeg) * x2_47) - ((10 : Int32) * (1 : Int32))) * x2_47)) (x3_47 + (1 : Int32)).toNatClampNeg) + ((1 : Int32) * x2_47))) (x3_47 + (1 : Int32)) x2_47 _ _ _ (by first | exact q_up hm c_2 | exact q_up hm c_3 | exact q_up hm c_5 | exact q_up hm hv | exact q_up hm c_21 | exact q_up hm c_23) (by first | exact q_upnn hv c_2 | exact q_upnn hv c_3 | exact q_upnn hv c_5 | exact q_upnn hv hv | exact q_upnn hv c_21 | exact q_upnn hv c_23) hP hD hS (lv_sub hl [0, 3, 4, 5] rfl) hF hs
            exact L47 (((39 : Int32).toInt - (0 : Int32).toInt).toNat + 1) r_this_one 0 (-1) _ _ _ (Nat.lt_succ_self _) (by decide) hP hD hS (lv_sub hl [0, 1, 2, 3] rfl) hF hs
        · skip
          rw [if_neg c_3] at hF
          rw [if_neg c_3] at hs
          refine lv_iconst (v := 0) hx hb dX8_settle_26 (by decide) ?_
          refine lv_goto (tgt := 44) hx hb dX8_settle_27 (by decide) ?_
          refine lv_istore_n (lv' := [(2, .int 0), (1, .int x1_3), (0, .ref a_this)]) hx hb dX8_settle_44 rfl hl (by decide) rfl (fun ls hl => ?_)
          refine lv_iconst (v := 0) hx hb dX8_settle_45 (by decide) ?_
          refine lv_istore_n (lv' := [(3, .int 0), (2, .int 0), (1, .int x1_3), (0, .ref a_this)]) hx hb dX8_settle_46 rfl hl (by decide) rfl (fun ls hl => ?_)
          have L47 : ∀ (fuel : Nat) (r_this_one_L47 : Nat → Int32) (x3_47 : Int32) (x2_47 : Int32) (H : Heap) (locs : List Loc) (ls : Array Slot), ((39 : Int32).toInt - (x3_47 : Int32).toInt).toNat < fuel → ¬ x3_47 < 0 → va_P D vwCl [(a_this, oX8 a_this_bytes a_this_keys a_this_reg a_this_card a_this_filled a_this_taken a_this_line a_this_one a_this_two o_this), (a_this_one, .inl (k_this_one, 40, .inl r_this_one_L47))] H → va_D A [(a_this, oX8 a_this_bytes a_this_keys a_this_reg a_this_card a_this_filled a_this_taken a_this_line a_this_one a_this_two o_this), (a_this_one, .inl (k_this_one, 40, .inl r_this_one_L47))] → va_S A s.heap H locs → lv_has ls 6 [(3, .int x3_47), (2, .int x2_47), (1, .int x1_3), (0, .ref a_this)] → f_X8_settle_L47 fuel r_this_one_L47 x3_47 x2_47 = F → s_X8_settle_L47  fuel r_this_one_L47 x3_47 x2_47 → W p l e ({ frames := 0, cells := 0, slots := 0, locals := 0 } : Room) s m ([.ref a_this] : List Value).toArray below meth c H locs 0 0 Q (F0 m 47 ls []) := by
            intro fuel
            induction fuel with
            | zero => intro r_this_one_L47 x3_47 x2_47 H locs ls hm; exact absurd hm (Nat.not_lt_zero _)
            | succ fuel ih =>
              intro r_this_one_L47 x3_47 x2_47 H locs ls hm hv hP hD hS hl hF hs
              rw [f_X8_settle_L47] at hF
              rw [s_X8_settle_L47] at hs
              skip
              refine lv_iload_n hx hb dX8_settle_47 rfl (lv_at hl 0 rfl) ?_
              refine lv_bipush (v := 39) hx hb dX8_settle_48 (by decide) ?_
              refine lv_icmp_ge (tgt := 123) hx hb dX8_settle_50 (by decide) (fun c_35 => ?_) (fun c_35 => ?_)
              · skip
                rw [if_pos c_35] at hF
                rw [if_pos c_35] at hs
                refine lv_iload_n hx hb dX8_settle_123 rfl (lv_at hl 1 rfl) ?_
                exact hQ x2_47 (x2_47, r_this_one_L47) _ _ _ _ dX8_settle_124 ⟨hF.symm, rfl⟩ hP hD hS
              · skip
                rw [if_neg c_35] at hF
                rw [if_neg c_35] at hs
                refine lv_aload_n hx hb dX8_settle_53 rfl (lv_at hl 3 rfl) ?_
                refine gf_X8_31 (v := .ref a_this_one) hx hb hown ht hK hP 0 rfl rfl dX8_settle_54 ?_
                refine lv_iload_n hx hb dX8_settle_57 rfl (lv_at hl 0 rfl) ?_
                obtain ⟨hi_36, hs⟩ := hs
                refine va_iald hx hb hK hP 1 0 rfl rfl hi_36 dX8_settle_58 ?_
                refine lv_iload_n hx hb dX8_settle_59 rfl (lv_at hl 1 rfl) ?_
                refine lv_imul hx hb dX8_settle_60 ?_
                refine lv_istore (lv' := [(4, .int ((r_this_one_L47 x3_47.toNatClampNeg) * x2_47)), (3, .int x3_47), (2, .int x2_47), (1, .int x1_3), (0, .ref a_this)]) hx hb dX8_settle_61 hl (by decide) rfl (fun ls hl => ?_)
                refine lv_iload hx hb dX8_settle_63 (lv_at hl 0 rfl) ?_
                refine lv_bipush (v := 9) hx hb dX8_settle_65 (by decide) ?_
                refine lv_icmp_le (tgt := 74) hx hb dX8_settle_67 (by decide) (fun c_37 => ?_) (fun c_37 => ?_)
                · skip
                  rw [if_pos c_37] at hF
                  rw [if_pos c_37] at hs
                  refine lv_iload hx hb dX8_settle_74 (lv_at hl 0 rfl) ?_
                  refine lv_if_ge (tgt := 83) hx hb dX8_settle_76 (by decide) (fun c_38 => ?_) (fun c_38 => ?_)
                  · skip
                    rw [if_pos c_38] at hF
                    rw [if_pos c_38] at hs
                    refine lv_iconst (v := 0) hx hb dX8_settle_83 (by decide) ?_
                    refine lv_istore (lv' := [(5, .int 0), (4, .int ((r_this_one_L47 x3_47.toNatClampNeg) * x2_47)), (3, .int x3_47), (2, .int x2_47), (1, .int x1_3), (0, .ref a_this)]) hx hb dX8_settle_84 hl (by decide) rfl (fun ls hl => ?_)
                    refine lv_aload_n hx hb dX8_settle_86 rfl (lv_at hl 5 rfl) ?_
                    refine gf_X8_31 (v := .ref a_this_one) hx hb hown ht hK hP 0 rfl rfl dX8_settle_87 ?_
                    refine lv_iload_n hx hb dX8_settle_90 rfl (lv_at hl 2 rfl) ?_
                    refine lv_iload hx hb dX8_settle_91 (lv_at hl 1 rfl) ?_
                    refine lv_bipush (v := 10) hx hb dX8_settle_93 (by decide) ?_
                    refine lv_iload hx hb dX8_settle_95 (lv_at hl 0 rfl) ?_
                    refine lv_imul hx hb dX8_settle_97 ?_
                    refine lv_isub hx hb dX8_settle_98 ?_
                    refine lv_iload_n hx hb dX8_settle_99 rfl (lv_at hl 3 rfl) ?_
                    refine lv_imul hx hb dX8_settle_100 ?_
                    obtain ⟨hi_39, hs⟩ := hs
                    refine va_iast hx hb hK hP hD hS 1 0 rfl rfl hi_39 dX8_settle_101 (fun H locs hP hD hS => ?_)
                    have hP : va_P D vwCl [(a_this, oX8 a_this_bytes a_this_keys a_this_reg a_this_card a_this_filled a_this_taken a_this_line a_this_one a_this_two o_this), (a_this_one, .inl (k_this_one, 40, .inl (upd r_this_one_L47 x3_47.toNatClampNeg ((((r_this_one_L47 x3_47.toNatClampNeg) * x2_47) - ((10 : Int32) * (0 : Int32))) * x2_47))))] H := hP
                    have hD : va_D A [(a_this, oX8 a_this_bytes a_this_keys a_this_reg a_this_card a_this_filled a_this_taken a_this_line a_this_one a_this_two o_this), (a_this_one, .inl (k_this_one, 40, .inl (upd r_this_one_L47 x3_47.toNatClampNeg ((((r_this_one_L47 x3_47.toNatClampNeg) * x2_47) - ((10 : Int32) * (0 : Int32))) * x2_47))))] := hD
                    refine lv_aload_n hx hb dX8_settle_102 rfl (lv_at hl 5 rfl) ?_
                    refine gf_X8_31 (v := .ref a_this_one) hx hb hown ht hK hP 0 rfl rfl dX8_settle_103 ?_
                    refine lv_iload_n hx hb dX8_settle_106 rfl (lv_at hl 2 rfl) ?_
                    refine lv_iconst (v := 1) hx hb dX8_settle_107 (by decide) ?_
                    refine lv_iadd hx hb dX8_settle_108 ?_
                    refine lv_dup2_11 hx hb dX8_settle_109 rfl rfl ?_
                    obtain ⟨hi_40, hs⟩ := hs
                    refine va_iald hx hb hK hP 1 0 rfl rfl hi_40 dX8_settle_110 ?_
                    refine lv_iload hx hb dX8_settle_111 (lv_at hl 0 rfl) ?_
                    refine lv_iload_n hx hb dX8_settle_113 rfl (lv_at hl 3 rfl) ?_
                    refine lv_imul hx hb dX8_settle_114 ?_
                    refine lv_iadd hx hb dX8_settle_115 ?_
                    obtain ⟨hi_41, hs⟩ := hs
                    refine va_iast hx hb hK hP hD hS 1 0 rfl rfl hi_41 dX8_settle_116 (fun H locs hP hD hS => ?_)
                    have hP : va_P D vwCl [(a_this, oX8 a_this_bytes a_this_keys a_this_reg a_this_card a_this_filled a_this_taken a_this_line a_this_one a_this_two o_this), (a_this_one, .inl (k_this_one, 40, .inl (upd (upd r_this_one_L47 x3_47.toNatClampNeg ((((r_this_one_L47 x3_47.toNatClampNeg) * x2_47) - ((10 : Int32) * (0 : Int32))) * x2_47)) (x3_47 + (1 : Int32)).toNatClampNeg (((upd r_this_one_L47 x3_47.toNatClampNeg ((((r_this_one_L47 x3_47.toNatClampNeg) * x2_47) - ((10 : Int32) * (0 : Int32))) * x2_47)) (x3_47 + (1 : Int32)).toNatClampNeg) + ((0 : Int32) * x2_47)))))] H := hP
                    have hD : va_D A [(a_this, oX8 a_this_bytes a_this_keys a_this_reg a_this_card a_this_filled a_this_taken a_this_line a_this_one a_this_two o_this), (a_this_one, .inl (k_this_one, 40, .inl (upd (upd r_this_one_L47 x3_47.toNatClampNeg ((((r_this_one_L47 x3_47.toNatClampNeg) * x2_47) - ((10 : Int32) * (0 : Int32))) * x2_47)) (x3_47 + (1 : Int32)).toNatClampNeg (((upd r_this_one_L47 x3_47.toNatClampNeg ((((r_this_one_L47 x3_47.toNatClampNeg) * x2_47) - ((10 : Int32) * (0 : Int32))) * x2_47)) (x3_47 + (1 : Int32)).toNatClampNeg) + ((0 : Int32) * x2_47)))))] := hD
                    refine lv_iinc (v := (x3_47 + (1 : Int32))) (lv' := [(3, .int (x3_47 + (1 : Int32))), (5, .int 0), (4, .int ((r_this_one_L47 x3_47.toNatClampNeg) * x2_47)), (2, .int x2_47), (1, .int x1_3), (0, .ref a_this)]) hx hb dX8_settle_117 hl (k := 2) rfl rfl (by decide) rfl (fun ls hl => ?_)
                    refine lv_goto (tgt := 47) hx hb dX8_settle_120 (by decide) ?_
                    exact ih (upd (upd r_this_one_L47 x3_47.toNatClampNeg ((((r_this_one_L47 x3_47.toNatClampNeg) * x2_47) - ((10 : Int32) * (0 : Int32))) * x2_47)) (x3_47 + (1 : Int32)).toNatClampNeg (((upd r_this_one_L47 x3_47.toNatClampNeg ((((r_this_one_L47 x3_47.toNatClampNeg) * x2_47) - ((10 : Int32) * (0 : Int32))) * x2_47)) (x3_47 + (1 : Int32)).toNatClampNeg) + ((0 : Int32) * x2_47))) (x3_47 + (1 : Int32)) x2_47 _ _ _ (by first | exact q_up hm c_2 | exact q_up hm c_3 | exact q_up hm hv | exact q_up hm c_35 | exact q_up hm c_37 | exact q_up hm c_38) (by first | exact q_upnn hv c_2 | exact q_upnn hv c_3 | exact q_upnn hv hv | exact q_upnn hv c_35 | exact q_upnn hv c_37 | exact q_upnn hv c_38) hP hD hS (lv_sub hl [0, 3, 4, 5] rfl) hF hs
                  · skip
                    rw [if_neg c_38] at hF
                    rw [if_neg c_38] at hs
                    refine lv_iconst (v := (-1)) hx hb dX8_settle_79 (by decide) ?_
                    refine lv_goto (tgt := 84) hx hb dX8_settle_80 (by decide) ?_
                    refine lv_istore (lv' := [(5, .int (-1)), (4, .int ((r_this_one_L47 x3_47.toNatClampNeg) * x2_47)), (3, .int x3_47), (2, .int x2_47), (1, .int x1_3), (0, .ref a_this)]) hx hb dX8_settle_84 hl (by decide) rfl (fun ls hl => ?_)
                    refine lv_aload_n hx hb dX8_settle_86 rfl (lv_at hl 5 rfl) ?_
                    refine gf_X8_31 (v := .ref a_this_one) hx hb hown ht hK hP 0 rfl rfl dX8_settle_87 ?_
                    refine lv_iload_n hx hb dX8_settle_90 rfl (lv_at hl 2 rfl) ?_
                    refine lv_iload hx hb dX8_settle_91 (lv_at hl 1 rfl) ?_
                    refine lv_bipush (v := 10) hx hb dX8_settle_93 (by decide) ?_
                    refine lv_iload hx hb dX8_settle_95 (lv_at hl 0 rfl) ?_
                    refine lv_imul hx hb dX8_settle_97 ?_
                    refine lv_isub hx hb dX8_settle_98 ?_
                    refine lv_iload_n hx hb dX8_settle_99 rfl (lv_at hl 3 rfl) ?_
                    refine lv_imul hx hb dX8_settle_100 ?_
                    obtain ⟨hi_42, hs⟩ := hs
                    refine va_iast hx hb hK hP hD hS 1 0 rfl rfl hi_42 dX8_settle_101 (fun H locs hP hD hS => ?_)
                    have hP : va_P D vwCl [(a_this, oX8 a_this_bytes a_this_keys a_this_reg a_this_card a_this_filled a_this_taken a_this_line a_this_one a_this_two o_this), (a_this_one, .inl (k_this_one, 40, .inl (upd r_this_one_L47 x3_47.toNatClampNeg ((((r_this_one_L47 x3_47.toNatClampNeg) * x2_47) - ((10 : Int32) * ((-1) : Int32))) * x2_47))))] H := hP
                    have hD : va_D A [(a_this, oX8 a_this_bytes a_this_keys a_this_reg a_this_card a_this_filled a_this_taken a_this_line a_this_one a_this_two o_this), (a_this_one, .inl (k_this_one, 40, .inl (upd r_this_one_L47 x3_47.toNatClampNeg ((((r_this_one_L47 x3_47.toNatClampNeg) * x2_47) - ((10 : Int32) * ((-1) : Int32))) * x2_47))))] := hD
                    refine lv_aload_n hx hb dX8_settle_102 rfl (lv_at hl 5 rfl) ?_
                    refine gf_X8_31 (v := .ref a_this_one) hx hb hown ht hK hP 0 rfl rfl dX8_settle_103 ?_
                    refine lv_iload_n hx hb dX8_settle_106 rfl (lv_at hl 2 rfl) ?_
                    refine lv_iconst (v := 1) hx hb dX8_settle_107 (by decide) ?_
                    refine lv_iadd hx hb dX8_settle_108 ?_
                    refine lv_dup2_11 hx hb dX8_settle_109 rfl rfl ?_
                    obtain ⟨hi_43, hs⟩ := hs
                    refine va_iald hx hb hK hP 1 0 rfl rfl hi_43 dX8_settle_110 ?_
                    refine lv_iload hx hb dX8_settle_111 (lv_at hl 0 rfl) ?_
                    refine lv_iload_n hx hb dX8_settle_113 rfl (lv_at hl 3 rfl) ?_
                    refine lv_imul hx hb dX8_settle_114 ?_
                    refine lv_iadd hx hb dX8_settle_115 ?_
                    obtain ⟨hi_44, hs⟩ := hs
                    refine va_iast hx hb hK hP hD hS 1 0 rfl rfl hi_44 dX8_settle_116 (fun H locs hP hD hS => ?_)
                    have hP : va_P D vwCl [(a_this, oX8 a_this_bytes a_this_keys a_this_reg a_this_card a_this_filled a_this_taken a_this_line a_this_one a_this_two o_this), (a_this_one, .inl (k_this_one, 40, .inl (upd (upd r_this_one_L47 x3_47.toNatClampNeg ((((r_this_one_L47 x3_47.toNatClampNeg) * x2_47) - ((10 : Int32) * ((-1) : Int32))) * x2_47)) (x3_47 + (1 : Int32)).toNatClampNeg (((upd r_this_one_L47 x3_47.toNatClampNeg ((((r_this_one_L47 x3_47.toNatClampNeg) * x2_47) - ((10 : Int32) * ((-1) : Int32))) * x2_47)) (x3_47 + (1 : Int32)).toNatClampNeg) + (((-1) : Int32) * x2_47)))))] H := hP
                    have hD : va_D A [(a_this, oX8 a_this_bytes a_this_keys a_this_reg a_this_card a_this_filled a_this_taken a_this_line a_this_one a_this_two o_this), (a_this_one, .inl (k_this_one, 40, .inl (upd (upd r_this_one_L47 x3_47.toNatClampNeg ((((r_this_one_L47 x3_47.toNatClampNeg) * x2_47) - ((10 : Int32) * ((-1) : Int32))) * x2_47)) (x3_47 + (1 : Int32)).toNatClampNeg (((upd r_this_one_L47 x3_47.toNatClampNeg ((((r_this_one_L47 x3_47.toNatClampNeg) * x2_47) - ((10 : Int32) * ((-1) : Int32))) * x2_47)) (x3_47 + (1 : Int32)).toNatClampNeg) + (((-1) : Int32) * x2_47)))))] := hD
                    refine lv_iinc (v := (x3_47 + (1 : Int32))) (lv' := [(3, .int (x3_47 + (1 : Int32))), (5, .int (-1)), (4, .int ((r_this_one_L47 x3_47.toNatClampNeg) * x2_47)), (2, .int x2_47), (1, .int x1_3), (0, .ref a_this)]) hx hb dX8_settle_117 hl (k := 2) rfl rfl (by decide) rfl (fun ls hl => ?_)
                    refine lv_goto (tgt := 47) hx hb dX8_settle_120 (by decide) ?_
                    exact ih (upd (upd r_this_one_L47 x3_47.toNatClampNeg ((((r_this_one_L47 x3_47.toNatClampNeg) * x2_47) - ((10 : Int32) * ((-1) : Int32))) * x2_47)) (x3_47 + (1 : Int32)).toNatClampNeg (((upd r_this_one_L47 x3_47.toNatClampNeg ((((r_this_one_L47 x3_47.toNatClampNeg) * x2_47) - ((10 : Int32) * ((-1) : Int32))) * x2_47)) (x3_47 + (1 : Int32)).toNatClampNeg) + (((-1) : Int32) * x2_47))) (x3_47 + (1 : Int32)) x2_47 _ _ _ (by first | exact q_up hm c_2 | exact q_up hm c_3 | exact q_up hm hv | exact q_up hm c_35 | exact q_up hm c_37 | exact q_up hm c_38) (by first | exact q_upnn hv c_2 | exact q_upnn hv c_3 | exact q_upnn hv hv | exact q_upnn hv c_35 | exact q_upnn hv c_37 | exact q_upnn hv c_38) hP hD hS (lv_sub hl [0, 3, 4, 5] rfl) hF hs
                · skip
                  rw [if_neg c_37] at hF
                  rw [if_neg c_37] at hs
                  refine lv_iconst (v := 1) hx hb dX8_settle_70 (by decide) ?_
                  refine lv_goto (tgt := 84) hx hb dX8_settle_71 (by decide) ?_
                  refine lv_istore (lv' := [(5, .int 1), (4, .int ((r_this_one_L47 x3_47.toNatClampNeg) * x2_47)), (3, .int x3_47), (2, .int x2_47), (1, .int x1_3), (0, .ref a_this)]) hx hb dX8_settle_84 hl (by decide) rfl (fun ls hl => ?_)
                  refine lv_aload_n hx hb dX8_settle_86 rfl (lv_at hl 5 rfl) ?_
                  refine gf_X8_31 (v := .ref a_this_one) hx hb hown ht hK hP 0 rfl rfl dX8_settle_87 ?_
                  refine lv_iload_n hx hb dX8_settle_90 rfl (lv_at hl 2 rfl) ?_
                  refine lv_iload hx hb dX8_settle_91 (lv_at hl 1 rfl) ?_
                  refine lv_bipush (v := 10) hx hb dX8_settle_93 (by decide) ?_
                  refine lv_iload hx hb dX8_settle_95 (lv_at hl 0 rfl) ?_
                  refine lv_imul hx hb dX8_settle_97 ?_
                  refine lv_isub hx hb dX8_settle_98 ?_
                  refine lv_iload_n hx hb dX8_settle_99 rfl (lv_at hl 3 rfl) ?_
                  refine lv_imul hx hb dX8_settle_100 ?_
                  obtain ⟨hi_45, hs⟩ := hs
                  refine va_iast hx hb hK hP hD hS 1 0 rfl rfl hi_45 dX8_settle_101 (fun H locs hP hD hS => ?_)
                  have hP : va_P D vwCl [(a_this, oX8 a_this_bytes a_this_keys a_this_reg a_this_card a_this_filled a_this_taken a_this_line a_this_one a_this_two o_this), (a_this_one, .inl (k_this_one, 40, .inl (upd r_this_one_L47 x3_47.toNatClampNeg ((((r_this_one_L47 x3_47.toNatClampNeg) * x2_47) - ((10 : Int32) * (1 : Int32))) * x2_47))))] H := hP
                  have hD : va_D A [(a_this, oX8 a_this_bytes a_this_keys a_this_reg a_this_card a_this_filled a_this_taken a_this_line a_this_one a_this_two o_this), (a_this_one, .inl (k_this_one, 40, .inl (upd r_this_one_L47 x3_47.toNatClampNeg ((((r_this_one_L47 x3_47.toNatClampNeg) * x2_47) - ((10 : Int32) * (1 : Int32))) * x2_47))))] := hD
                  refine lv_aload_n hx hb dX8_settle_102 rfl (lv_at hl 5 rfl) ?_
                  refine gf_X8_31 (v := .ref a_this_one) hx hb hown ht hK hP 0 rfl rfl dX8_settle_103 ?_
                  refine lv_iload_n hx hb dX8_settle_106 rfl (lv_at hl 2 rfl) ?_
                  refine lv_iconst (v := 1) hx hb dX8_settle_107 (by decide) ?_
                  refine lv_iadd hx hb dX8_settle_108 ?_
                  refine lv_dup2_11 hx hb dX8_settle_109 rfl rfl ?_
                  obtain ⟨hi_46, hs⟩ := hs
                  refine va_iald hx hb hK hP 1 0 rfl rfl hi_46 dX8_settle_110 ?_
                  refine lv_iload hx hb dX8_settle_111 (lv_at hl 0 rfl) ?_
                  refine lv_iload_n hx hb dX8_settle_113 rfl (lv_at hl 3 rfl) ?_
                  refine lv_imul hx hb dX8_settle_114 ?_
                  refine lv_iadd hx hb dX8_settle_115 ?_
                  obtain ⟨hi_47, hs⟩ := hs
                  refine va_iast hx hb hK hP hD hS 1 0 rfl rfl hi_47 dX8_settle_116 (fun H locs hP hD hS => ?_)
                  have hP : va_P D vwCl [(a_this, oX8 a_this_bytes a_this_keys a_this_reg a_this_card a_this_filled a_this_taken a_this_line a_this_one a_this_two o_this), (a_this_one, .inl (k_this_one, 40, .inl (upd (upd r_this_one_L47 x3_47.toNatClampNeg ((((r_this_one_L47 x3_47.toNatClampNeg) * x2_47) - ((10 : Int32) * (1 : Int32))) * x2_47)) (x3_47 + (1 : Int32)).toNatClampNeg (((upd r_this_one_L47 x3_47.toNatClampNeg ((((r_this_one_L47 x3_47.toNatClampNeg) * x2_47) - ((10 : Int32) * (1 : Int32))) * x2_47)) (x3_47 + (1 : Int32)).toNatClampNeg) + ((1 : Int32) * x2_47)))))] H := hP
                  have hD : va_D A [(a_this, oX8 a_this_bytes a_this_keys a_this_reg a_this_card a_this_filled a_this_taken a_this_line a_this_one a_this_two o_this), (a_this_one, .inl (k_this_one, 40, .inl (upd (upd r_this_one_L47 x3_47.toNatClampNeg ((((r_this_one_L47 x3_47.toNatClampNeg) * x2_47) - ((10 : Int32) * (1 : Int32))) * x2_47)) (x3_47 + (1 : Int32)).toNatClampNeg (((upd r_this_one_L47 x3_47.toNatClampNeg ((((r_this_one_L47 x3_47.toNatClampNeg) * x2_47) - ((10 : Int32) * (1 : Int32))) * x2_47)) (x3_47 + (1 : Int32)).toNatClampNeg) + ((1 : Int32) * x2_47)))))] := hD
                  refine lv_iinc (v := (x3_47 + (1 : Int32))) (lv' := [(3, .int (x3_47 + (1 : Int32))), (5, .int 1), (4, .int ((r_this_one_L47 x3_47.toNatClampNeg) * x2_47)), (2, .int x2_47), (1, .int x1_3), (0, .ref a_this)]) hx hb dX8_settle_117 hl (k := 2) rfl rfl (by decide) rfl (fun ls hl => ?_)
                  refine lv_goto (tgt := 47) hx hb dX8_settle_120 (by decide) ?_
                  exact ih (upd (upd r_this_one_L47 x3_47.toNatClampNeg ((((r_this_one_L47 x3_47.toNatClampNeg) * x2_47) - ((10 : Int32) * (1 : Int32))) * x2_47)) (x3_47 + (1 : Int32)).toNatClampNeg (((upd r_this_one_L47 x3_47.toNatClampNeg ((((r_this_one_L47 x3_47.toNatClampNeg) * x2_47) - ((10 : Int32) * (1 : Int32))) * x2_47)) (x3_47 + (1 : Int32)).toNatClampNeg) + ((1 : Int32) * x2_47))) (x3_47 + (1 : Int32)) x2_47 _ _ _ (by first | exact q_up hm c_2 | exact q_up hm c_3 | exact q_up hm hv | exact q_up hm c_35 | exact q_up hm c_37) (by first | exact q_upnn hv c_2 | exact q_upnn hv c_3 | exact q_upnn hv hv | exact q_upnn hv c_35 | exact q_upnn hv c_37) hP hD hS (lv_sub hl [0, 3, 4, 5] rfl) hF hs
          exact L47 (((39 : Int32).toInt - (0 : Int32).toInt).toNat + 1) r_this_one 0 0 _ _ _ (Nat.lt_succ_self _) (by decide) hP hD hS (lv_sub hl [0, 1, 2, 3] rfl) hF hs
      · skip
        rw [if_neg c_2] at hF
        rw [if_neg c_2] at hs
        refine lv_aload_n hx hb dX8_settle_7 rfl (lv_at hl 1 rfl) ?_
        refine gf_X8_31 (v := .ref a_this_one) hx hb hown ht hK hP 0 rfl rfl dX8_settle_8 ?_
        refine lv_iload_n hx hb dX8_settle_11 rfl (lv_at hl 0 rfl) ?_
        obtain ⟨hi_48, hs⟩ := hs
        refine va_iald hx hb hK hP 1 0 rfl rfl hi_48 dX8_settle_12 ?_
        refine lv_if_ne (tgt := 22) hx hb dX8_settle_13 (by decide) (fun c_49 => ?_) (fun c_49 => ?_)
        · skip
          rw [if_neg c_49] at hF
          rw [if_neg c_49] at hs
          refine lv_iload_n hx hb dX8_settle_22 rfl (lv_at hl 0 rfl) ?_
          refine lv_if_ge (tgt := 30) hx hb dX8_settle_23 (by decide) (fun c_50 => ?_) (fun c_50 => ?_)
          · skip
            rw [if_pos c_50] at hF
            rw [if_pos c_50] at hs
            refine lv_aload_n hx hb dX8_settle_30 rfl (lv_at hl 1 rfl) ?_
            refine gf_X8_31 (v := .ref a_this_one) hx hb hown ht hK hP 0 rfl rfl dX8_settle_31 ?_
            refine lv_iload_n hx hb dX8_settle_34 rfl (lv_at hl 0 rfl) ?_
            obtain ⟨hi_51, hs⟩ := hs
            refine va_iald hx hb hK hP 1 0 rfl rfl hi_51 dX8_settle_35 ?_
            refine lv_if_ge (tgt := 43) hx hb dX8_settle_36 (by decide) (fun c_52 => ?_) (fun c_52 => ?_)
            · skip
              rw [if_pos c_52] at hF
              rw [if_pos c_52] at hs
              refine lv_iconst (v := 1) hx hb dX8_settle_43 (by decide) ?_
              refine lv_istore_n (lv' := [(2, .int 1), (1, .int x1_3), (0, .ref a_this)]) hx hb dX8_settle_44 rfl hl (by decide) rfl (fun ls hl => ?_)
              refine lv_iconst (v := 0) hx hb dX8_settle_45 (by decide) ?_
              refine lv_istore_n (lv' := [(3, .int 0), (2, .int 1), (1, .int x1_3), (0, .ref a_this)]) hx hb dX8_settle_46 rfl hl (by decide) rfl (fun ls hl => ?_)
              have L47 : ∀ (fuel : Nat) (r_this_one_L47 : Nat → Int32) (x3_47 : Int32) (x2_47 : Int32) (H : Heap) (locs : List Loc) (ls : Array Slot), ((39 : Int32).toInt - (x3_47 : Int32).toInt).toNat < fuel → ¬ x3_47 < 0 → va_P D vwCl [(a_this, oX8 a_this_bytes a_this_keys a_this_reg a_this_card a_this_filled a_this_taken a_this_line a_this_one a_this_two o_this), (a_this_one, .inl (k_this_one, 40, .inl r_this_one_L47))] H → va_D A [(a_this, oX8 a_this_bytes a_this_keys a_this_reg a_this_card a_this_filled a_this_taken a_this_line a_this_one a_this_two o_this), (a_this_one, .inl (k_this_one, 40, .inl r_this_one_L47))] → va_S A s.heap H locs → lv_has ls 6 [(3, .int x3_47), (2, .int x2_47), (1, .int x1_3), (0, .ref a_this)] → f_X8_settle_L47 fuel r_this_one_L47 x3_47 x2_47 = F → s_X8_settle_L47  fuel r_this_one_L47 x3_47 x2_47 → W p l e ({ frames := 0, cells := 0, slots := 0, locals := 0 } : Room) s m ([.ref a_this] : List Value).toArray below meth c H locs 0 0 Q (F0 m 47 ls []) := by
                intro fuel
                induction fuel with
                | zero => intro r_this_one_L47 x3_47 x2_47 H locs ls hm; exact absurd hm (Nat.not_lt_zero _)
                | succ fuel ih =>
                  intro r_this_one_L47 x3_47 x2_47 H locs ls hm hv hP hD hS hl hF hs
                  rw [f_X8_settle_L47] at hF
                  rw [s_X8_settle_L47] at hs
                  skip
                  refine lv_iload_n hx hb dX8_settle_47 rfl (lv_at hl 0 rfl) ?_
                  refine lv_bipush (v := 39) hx hb dX8_settle_48 (by decide) ?_
                  refine lv_icmp_ge (tgt := 123) hx hb dX8_settle_50 (by decide) (fun c_54 => ?_) (fun c_54 => ?_)
                  · skip
                    rw [if_pos c_54] at hF
                    rw [if_pos c_54] at hs
                    refine lv_iload_n hx hb dX8_settle_123 rfl (lv_at hl 1 rfl) ?_
                    exact hQ x2_47 (x2_47, r_this_one_L47) _ _ _ _ dX8_settle_124 ⟨hF.symm, rfl⟩ hP hD hS
                  · skip
                    rw [if_neg c_54] at hF
                    rw [if_neg c_54] at hs
                    refine lv_aload_n hx hb dX8_settle_53 rfl (lv_at hl 3 rfl) ?_
                    refine gf_X8_31 (v := .ref a_this_one) hx hb hown ht hK hP 0 rfl rfl dX8_settle_54 ?_
                    refine lv_iload_n hx hb dX8_settle_57 rfl (lv_at hl 0 rfl) ?_
                    obtain ⟨hi_55, hs⟩ := hs
                    refine va_iald hx hb hK hP 1 0 rfl rfl hi_55 dX8_settle_58 ?_
                    refine lv_iload_n hx hb dX8_settle_59 rfl (lv_at hl 1 rfl) ?_
                    refine lv_imul hx hb dX8_settle_60 ?_
                    refine lv_istore (lv' := [(4, .int ((r_this_one_L47 x3_47.toNatClampNeg) * x2_47)), (3, .int x3_47), (2, .int x2_47), (1, .int x1_3), (0, .ref a_this)]) hx hb dX8_settle_61 hl (by decide) rfl (fun ls hl => ?_)
                    refine lv_iload hx hb dX8_settle_63 (lv_at hl 0 rfl) ?_
                    refine lv_bipush (v := 9) hx hb dX8_settle_65 (by decide) ?_
                    refine lv_icmp_le (tgt := 74) hx hb dX8_settle_67 (by decide) (fun c_56 => ?_) (fun c_56 => ?_)
                    · skip
                      rw [if_pos c_56] at hF
                      rw [if_pos c_56] at hs
                      refine lv_iload hx hb dX8_settle_74 (lv_at hl 0 rfl) ?_
                      refine lv_if_ge (tgt := 83) hx hb dX8_settle_76 (by decide) (fun c_57 => ?_) (fun c_57 => ?_)
                      · skip
                        rw [if_pos c_57] at hF
                        rw [if_pos c_57] at hs
                        refine lv_iconst (v := 0) hx hb dX8_settle_83 (by decide) ?_
                        refine lv_istore (lv' := [(5, .int 0), (4, .int ((r_this_one_L47 x3_47.toNatClampNeg) * x2_47)), (3, .int x3_47), (2, .int x2_47), (1, .int x1_3), (0, .ref a_this)]) hx hb dX8_settle_84 hl (by decide) rfl (fun ls hl => ?_)
                        refine lv_aload_n hx hb dX8_settle_86 rfl (lv_at hl 5 rfl) ?_
                        refine gf_X8_31 (v := .ref a_this_one) hx hb hown ht hK hP 0 rfl rfl dX8_settle_87 ?_
                        refine lv_iload_n hx hb dX8_settle_90 rfl (lv_at hl 2 rfl) ?_
                        refine lv_iload hx hb dX8_settle_91 (lv_at hl 1 rfl) ?_
                        refine lv_bipush (v := 10) hx hb dX8_settle_93 (by decide) ?_
                        refine lv_iload hx hb dX8_settle_95 (lv_at hl 0 rfl) ?_
                        refine lv_imul hx hb dX8_settle_97 ?_
                        refine lv_isub hx hb dX8_settle_98 ?_
                        refine lv_iload_n hx hb dX8_settle_99 rfl (lv_at hl 3 rfl) ?_
                        refine lv_imul hx hb dX8_settle_100 ?_
                        obtain ⟨hi_58, hs⟩ := hs
                        refine va_iast hx hb hK hP hD hS 1 0 rfl rfl hi_58 dX8_settle_101 (fun H locs hP hD hS => ?_)
                        have hP : va_P D vwCl [(a_this, oX8 a_this_bytes a_this_keys a_this_reg a_this_card a_this_filled a_this_taken a_this_line a_this_one a_this_two o_this), (a_this_one, .inl (k_this_one, 40, .inl (upd r_this_one_L47 x3_47.toNatClampNeg ((((r_this_one_L47 x3_47.toNatClampNeg) * x2_47) - ((10 : Int32) * (0 : Int32))) * x2_47))))] H := hP
                        have hD : va_D A [(a_this, oX8 a_this_bytes a_this_keys a_this_reg a_this_card a_this_filled a_this_taken a_this_line a_this_one a_this_two o_this), (a_this_one, .inl (k_this_one, 40, .inl (upd r_this_one_L47 x3_47.toNatClampNeg ((((r_this_one_L47 x3_47.toNatClampNeg) * x2_47) - ((10 : Int32) * (0 : Int32))) * x2_47))))] := hD
                        refine lv_aload_n hx hb dX8_settle_102 rfl (lv_at hl 5 rfl) ?_
                        refine gf_X8_31 (v := .ref a_this_one) hx hb hown ht hK hP 0 rfl rfl dX8_settle_103 ?_
                        refine lv_iload_n hx hb dX8_settle_106 rfl (lv_at hl 2 rfl) ?_
                        refine lv_iconst (v := 1) hx hb dX8_settle_107 (by decide) ?_
                        refine lv_iadd hx hb dX8_settle_108 ?_
                        refine lv_dup2_11 hx hb dX8_settle_109 rfl rfl ?_
                        obtain ⟨hi_59, hs⟩ := hs
                        refine va_iald hx hb hK hP 1 0 rfl rfl hi_59 dX8_settle_110 ?_
                        refine lv_iload hx hb dX8_settle_111 (lv_at hl 0 rfl) ?_
                        refine lv_iload_n hx hb dX8_settle_113 rfl (lv_at hl 3 rfl) ?_
                        refine lv_imul hx hb dX8_settle_114 ?_
                        refine lv_iadd hx hb dX8_settle_115 ?_
                        obtain ⟨hi_60, hs⟩ := hs
                        refine va_iast hx hb hK hP hD hS 1 0 rfl rfl hi_60 dX8_settle_116 (fun H locs hP hD hS => ?_)
                        have hP : va_P D vwCl [(a_this, oX8 a_this_bytes a_this_keys a_this_reg a_this_card a_this_filled a_this_taken a_this_line a_this_one a_this_two o_this), (a_this_one, .inl (k_this_one, 40, .inl (upd (upd r_this_one_L47 x3_47.toNatClampNeg ((((r_this_one_L47 x3_47.toNatClampNeg) * x2_47) - ((10 : Int32) * (0 : Int32))) * x2_47)) (x3_47 + (1 : Int32)).toNatClampNeg (((upd r_this_one_L47 x3_47.toNatClampNeg ((((r_this_one_L47 x3_47.toNatClampNeg) * x2_47) - ((10 : Int32) * (0 : Int32))) * x2_47)) (x3_47 + (1 : Int32)).toNatClampNeg) + ((0 : Int32) * x2_47)))))] H := hP
                        have hD : va_D A [(a_this, oX8 a_this_bytes a_this_keys a_this_reg a_this_card a_this_filled a_this_taken a_this_line a_this_one a_this_two o_this), (a_this_one, .inl (k_this_one, 40, .inl (upd (upd r_this_one_L47 x3_47.toNatClampNeg ((((r_this_one_L47 x3_47.toNatClampNeg) * x2_47) - ((10 : Int32) * (0 : Int32))) * x2_47)) (x3_47 + (1 : Int32)).toNatClampNeg (((upd r_this_one_L47 x3_47.toNatClampNeg ((((r_this_one_L47 x3_47.toNatClampNeg) * x2_47) - ((10 : Int32) * (0 : Int32))) * x2_47)) (x3_47 + (1 : Int32)).toNatClampNeg) + ((0 : Int32) * x2_47)))))] := hD
                        refine lv_iinc (v := (x3_47 + (1 : Int32))) (lv' := [(3, .int (x3_47 + (1 : Int32))), (5, .int 0), (4, .int ((r_this_one_L47 x3_47.toNatClampNeg) * x2_47)), (2, .int x2_47), (1, .int x1_3), (0, .ref a_this)]) hx hb dX8_settle_117 hl (k := 2) rfl rfl (by decide) rfl (fun ls hl => ?_)
                        refine lv_goto (tgt := 47) hx hb dX8_settle_120 (by decide) ?_
                        exact ih (upd (upd r_this_one_L47 x3_47.toNatClampNeg ((((r_this_one_L47 x3_47.toNatClampNeg) * x2_47) - ((10 : Int32) * (0 : Int32))) * x2_47)) (x3_47 + (1 : Int32)).toNatClampNeg (((upd r_this_one_L47 x3_47.toNatClampNeg ((((r_this_one_L47 x3_47.toNatClampNeg) * x2_47) - ((10 : Int32) * (0 : Int32))) * x2_47)) (x3_47 + (1 : Int32)).toNatClampNeg) + ((0 : Int32) * x2_47))) (x3_47 + (1 : Int32)) x2_47 _ _ _ (by first | exact q_up hm c_2 | exact q_up hm c_49 | exact q_up hm c_50 | exact q_up hm c_52 | exact q_up hm hv | exact q_up hm c_54 | exact q_up hm c_56 | exact q_up hm c_57) (by first | exact q_upnn hv c_2 | exact q_upnn hv c_49 | exact q_upnn hv c_50 | exact q_upnn hv c_52 | exact q_upnn hv hv | exact q_upnn hv c_54 | exact q_upnn hv c_56 | exact q_upnn hv c_57) hP hD hS (lv_sub hl [0, 3, 4, 5] rfl) hF hs
                      · skip
                        rw [if_neg c_57] at hF
                        rw [if_neg c_57] at hs
                        refine lv_iconst (v := (-1)) hx hb dX8_settle_79 (by decide) ?_
                        refine lv_goto (tgt := 84) hx hb dX8_settle_80 (by decide) ?_
                        refine lv_istore (lv' := [(5, .int (-1)), (4, .int ((r_this_one_L47 x3_47.toNatClampNeg) * x2_47)), (3, .int x3_47), (2, .int x2_47), (1, .int x1_3), (0, .ref a_this)]) hx hb dX8_settle_84 hl (by decide) rfl (fun ls hl => ?_)
                        refine lv_aload_n hx hb dX8_settle_86 rfl (lv_at hl 5 rfl) ?_
                        refine gf_X8_31 (v := .ref a_this_one) hx hb hown ht hK hP 0 rfl rfl dX8_settle_87 ?_
                        refine lv_iload_n hx hb dX8_settle_90 rfl (lv_at hl 2 rfl) ?_
                        refine lv_iload hx hb dX8_settle_91 (lv_at hl 1 rfl) ?_
                        refine lv_bipush (v := 10) hx hb dX8_settle_93 (by decide) ?_
                        refine lv_iload hx hb dX8_settle_95 (lv_at hl 0 rfl) ?_
                        refine lv_imul hx hb dX8_settle_97 ?_
                        refine lv_isub hx hb dX8_settle_98 ?_
                        refine lv_iload_n hx hb dX8_settle_99 rfl (lv_at hl 3 rfl) ?_
                        refine lv_imul hx hb dX8_settle_100 ?_
                        obtain ⟨hi_61, hs⟩ := hs
                        refine va_iast hx hb hK hP hD hS 1 0 rfl rfl hi_61 dX8_settle_101 (fun H locs hP hD hS => ?_)
                        have hP : va_P D vwCl [(a_this, oX8 a_this_bytes a_this_keys a_this_reg a_this_card a_this_filled a_this_taken a_this_line a_this_one a_this_two o_this), (a_this_one, .inl (k_this_one, 40, .inl (upd r_this_one_L47 x3_47.toNatClampNeg ((((r_this_one_L47 x3_47.toNatClampNeg) * x2_47) - ((10 : Int32) * ((-1) : Int32))) * x2_47))))] H := hP
                        have hD : va_D A [(a_this, oX8 a_this_bytes a_this_keys a_this_reg a_this_card a_this_filled a_this_taken a_this_line a_this_one a_this_two o_this), (a_this_one, .inl (k_this_one, 40, .inl (upd r_this_one_L47 x3_47.toNatClampNeg ((((r_this_one_L47 x3_47.toNatClampNeg) * x2_47) - ((10 : Int32) * ((-1) : Int32))) * x2_47))))] := hD
                        refine lv_aload_n hx hb dX8_settle_102 rfl (lv_at hl 5 rfl) ?_
                        refine gf_X8_31 (v := .ref a_this_one) hx hb hown ht hK hP 0 rfl rfl dX8_settle_103 ?_
                        refine lv_iload_n hx hb dX8_settle_106 rfl (lv_at hl 2 rfl) ?_
                        refine lv_iconst (v := 1) hx hb dX8_settle_107 (by decide) ?_
                        refine lv_iadd hx hb dX8_settle_108 ?_
                        refine lv_dup2_11 hx hb dX8_settle_109 rfl rfl ?_
                        obtain ⟨hi_62, hs⟩ := hs
                        refine va_iald hx hb hK hP 1 0 rfl rfl hi_62 dX8_settle_110 ?_
                        refine lv_iload hx hb dX8_settle_111 (lv_at hl 0 rfl) ?_
                        refine lv_iload_n hx hb dX8_settle_113 rfl (lv_at hl 3 rfl) ?_
                        refine lv_imul hx hb dX8_settle_114 ?_
                        refine lv_iadd hx hb dX8_settle_115 ?_
                        obtain ⟨hi_63, hs⟩ := hs
                        refine va_iast hx hb hK hP hD hS 1 0 rfl rfl hi_63 dX8_settle_116 (fun H locs hP hD hS => ?_)
                        have hP : va_P D vwCl [(a_this, oX8 a_this_bytes a_this_keys a_this_reg a_this_card a_this_filled a_this_taken a_this_line a_this_one a_this_two o_this), (a_this_one, .inl (k_this_one, 40, .inl (upd (upd r_this_one_L47 x3_47.toNatClampNeg ((((r_this_one_L47 x3_47.toNatClampNeg) * x2_47) - ((10 : Int32) * ((-1) : Int32))) * x2_47)) (x3_47 + (1 : Int32)).toNatClampNeg (((upd r_this_one_L47 x3_47.toNatClampNeg ((((r_this_one_L47 x3_47.toNatClampNeg) * x2_47) - ((10 : Int32) * ((-1) : Int32))) * x2_47)) (x3_47 + (1 : Int32)).toNatClampNeg) + (((-1) : Int32) * x2_47)))))] H := hP
                        have hD : va_D A [(a_this, oX8 a_this_bytes a_this_keys a_this_reg a_this_card a_this_filled a_this_taken a_this_line a_this_one a_this_two o_this), (a_this_one, .inl (k_this_one, 40, .inl (upd (upd r_this_one_L47 x3_47.toNatClampNeg ((((r_this_one_L47 x3_47.toNatClampNeg) * x2_47) - ((10 : Int32) * ((-1) : Int32))) * x2_47)) (x3_47 + (1 : Int32)).toNatClampNeg (((upd r_this_one_L47 x3_47.toNatClampNeg ((((r_this_one_L47 x3_47.toNatClampNeg) * x2_47) - ((10 : Int32) * ((-1) : Int32))) * x2_47)) (x3_47 + (1 : Int32)).toNatClampNeg) + (((-1) : Int32) * x2_47)))))] := hD
                        refine lv_iinc (v := (x3_47 + (1 : Int32))) (lv' := [(3, .int (x3_47 + (1 : Int32))), (5, .int (-1)), (4, .int ((r_this_one_L47 x3_47.toNatClampNeg) * x2_47)), (2, .int x2_47), (1, .int x1_3), (0, .ref a_this)]) hx hb dX8_settle_117 hl (k := 2) rfl rfl (by decide) rfl (fun ls hl => ?_)
                        refine lv_goto (tgt := 47) hx hb dX8_settle_120 (by decide) ?_
                        exact ih (upd (upd r_this_one_L47 x3_47.toNatClampNeg ((((r_this_one_L47 x3_47.toNatClampNeg) * x2_47) - ((10 : Int32) * ((-1) : Int32))) * x2_47)) (x3_47 + (1 : Int32)).toNatClampNeg (((upd r_this_one_L47 x3_47.toNatClampNeg ((((r_this_one_L47 x3_47.toNatClampNeg) * x2_47) - ((10 : Int32) * ((-1) : Int32))) * x2_47)) (x3_47 + (1 : Int32)).toNatClampNeg) + (((-1) : Int32) * x2_47))) (x3_47 + (1 : Int32)) x2_47 _ _ _ (by first | exact q_up hm c_2 | exact q_up hm c_49 | exact q_up hm c_50 | exact q_up hm c_52 | exact q_up hm hv | exact q_up hm c_54 | exact q_up hm c_56 | exact q_up hm c_57) (by first | exact q_upnn hv c_2 | exact q_upnn hv c_49 | exact q_upnn hv c_50 | exact q_upnn hv c_52 | exact q_upnn hv hv | exact q_upnn hv c_54 | exact q_upnn hv c_56 | exact q_upnn hv c_57) hP hD hS (lv_sub hl [0, 3, 4, 5] rfl) hF hs
                    · skip
                      rw [if_neg c_56] at hF
                      rw [if_neg c_56] at hs
                      refine lv_iconst (v := 1) hx hb dX8_settle_70 (by decide) ?_
                      refine lv_goto (tgt := 84) hx hb dX8_settle_71 (by decide) ?_
                      refine lv_istore (lv' := [(5, .int 1), (4, .int ((r_this_one_L47 x3_47.toNatClampNeg) * x2_47)), (3, .int x3_47), (2, .int x2_47), (1, .int x1_3), (0, .ref a_this)]) hx hb dX8_settle_84 hl (by decide) rfl (fun ls hl => ?_)
                      refine lv_aload_n hx hb dX8_settle_86 rfl (lv_at hl 5 rfl) ?_
                      refine gf_X8_31 (v := .ref a_this_one) hx hb hown ht hK hP 0 rfl rfl dX8_settle_87 ?_
                      refine lv_iload_n hx hb dX8_settle_90 rfl (lv_at hl 2 rfl) ?_
                      refine lv_iload hx hb dX8_settle_91 (lv_at hl 1 rfl) ?_
                      refine lv_bipush (v := 10) hx hb dX8_settle_93 (by decide) ?_
                      refine lv_iload hx hb dX8_settle_95 (lv_at hl 0 rfl) ?_
                      refine lv_imul hx hb dX8_settle_97 ?_
                      refine lv_isub hx hb dX8_settle_98 ?_
                      refine lv_iload_n hx hb dX8_settle_99 rfl (lv_at hl 3 rfl) ?_
                      refine lv_imul hx hb dX8_settle_100 ?_
                      obtain ⟨hi_64, hs⟩ := hs
                      refine va_iast hx hb hK hP hD hS 1 0 rfl rfl hi_64 dX8_settle_101 (fun H locs hP hD hS => ?_)
                      have hP : va_P D vwCl [(a_this, oX8 a_this_bytes a_this_keys a_this_reg a_this_card a_this_filled a_this_taken a_this_line a_this_one a_this_two o_this), (a_this_one, .inl (k_this_one, 40, .inl (upd r_this_one_L47 x3_47.toNatClampNeg ((((r_this_one_L47 x3_47.toNatClampNeg) * x2_47) - ((10 : Int32) * (1 : Int32))) * x2_47))))] H := hP
                      have hD : va_D A [(a_this, oX8 a_this_bytes a_this_keys a_this_reg a_this_card a_this_filled a_this_taken a_this_line a_this_one a_this_two o_this), (a_this_one, .inl (k_this_one, 40, .inl (upd r_this_one_L47 x3_47.toNatClampNeg ((((r_this_one_L47 x3_47.toNatClampNeg) * x2_47) - ((10 : Int32) * (1 : Int32))) * x2_47))))] := hD
                      refine lv_aload_n hx hb dX8_settle_102 rfl (lv_at hl 5 rfl) ?_
                      refine gf_X8_31 (v := .ref a_this_one) hx hb hown ht hK hP 0 rfl rfl dX8_settle_103 ?_
                      refine lv_iload_n hx hb dX8_settle_106 rfl (lv_at hl 2 rfl) ?_
                      refine lv_iconst (v := 1) hx hb dX8_settle_107 (by decide) ?_
                      refine lv_iadd hx hb dX8_settle_108 ?_
                      refine lv_dup2_11 hx hb dX8_settle_109 rfl rfl ?_
                      obtain ⟨hi_65, hs⟩ := hs
                      refine va_iald hx hb hK hP 1 0 rfl rfl hi_65 dX8_settle_110 ?_
                      refine lv_iload hx hb dX8_settle_111 (lv_at hl 0 rfl) ?_
                      refine lv_iload_n hx hb dX8_settle_113 rfl (lv_at hl 3 rfl) ?_
                      refine lv_imul hx hb dX8_settle_114 ?_
                      refine lv_iadd hx hb dX8_settle_115 ?_
                      obtain ⟨hi_66, hs⟩ := hs
                      refine va_iast hx hb hK hP hD hS 1 0 rfl rfl hi_66 dX8_settle_116 (fun H locs hP hD hS => ?_)
                      have hP : va_P D vwCl [(a_this, oX8 a_this_bytes a_this_keys a_this_reg a_this_card a_this_filled a_this_taken a_this_line a_this_one a_this_two o_this), (a_this_one, .inl (k_this_one, 40, .inl (upd (upd r_this_one_L47 x3_47.toNatClampNeg ((((r_this_one_L47 x3_47.toNatClampNeg) * x2_47) - ((10 : Int32) * (1 : Int32))) * x2_47)) (x3_47 + (1 : Int32)).toNatClampNeg (((upd r_this_one_L47 x3_47.toNatClampNeg ((((r_this_one_L47 x3_47.toNatClampNeg) * x2_47) - ((10 : Int32) * (1 : Int32))) * x2_47)) (x3_47 + (1 : Int32)).toNatClampNeg) + ((1 : Int32) * x2_47)))))] H := hP
                      have hD : va_D A [(a_this, oX8 a_this_bytes a_this_keys a_this_reg a_this_card a_this_filled a_this_taken a_this_line a_this_one a_this_two o_this), (a_this_one, .inl (k_this_one, 40, .inl (upd (upd r_this_one_L47 x3_47.toNatClampNeg ((((r_this_one_L47 x3_47.toNatClampNeg) * x2_47) - ((10 : Int32) * (1 : Int32))) * x2_47)) (x3_47 + (1 : Int32)).toNatClampNeg (((upd r_this_one_L47 x3_47.toNatClampNeg ((((r_this_one_L47 x3_47.toNatClampNeg) * x2_47) - ((10 : Int32) * (1 : Int32))) * x2_47)) (x3_47 + (1 : Int32)).toNatClampNeg) + ((1 : Int32) * x2_47)))))] := hD
                      refine lv_iinc (v := (x3_47 + (1 : Int32))) (lv' := [(3, .int (x3_47 + (1 : Int32))), (5, .int 1), (4, .int ((r_this_one_L47 x3_47.toNatClampNeg) * x2_47)), (2, .int x2_47), (1, .int x1_3), (0, .ref a_this)]) hx hb dX8_settle_117 hl (k := 2) rfl rfl (by decide) rfl (fun ls hl => ?_)
                      refine lv_goto (tgt := 47) hx hb dX8_settle_120 (by decide) ?_
                      exact ih (upd (upd r_this_one_L47 x3_47.toNatClampNeg ((((r_this_one_L47 x3_47.toNatClampNeg) * x2_47) - ((10 : Int32) * (1 : Int32))) * x2_47)) (x3_47 + (1 : Int32)).toNatClampNeg (((upd r_this_one_L47 x3_47.toNatClampNeg ((((r_this_one_L47 x3_47.toNatClampNeg) * x2_47) - ((10 : Int32) * (1 : Int32))) * x2_47)) (x3_47 + (1 : Int32)).toNatClampNeg) + ((1 : Int32) * x2_47))) (x3_47 + (1 : Int32)) x2_47 _ _ _ (by first | exact q_up hm c_2 | exact q_up hm c_49 | exact q_up hm c_50 | exact q_up hm c_52 | exact q_up hm hv | exact q_up hm c_54 | exact q_up hm c_56) (by first | exact q_upnn hv c_2 | exact q_upnn hv c_49 | exact q_upnn hv c_50 | exact q_upnn hv c_52 | exact q_upnn hv hv | exact q_upnn hv c_54 | exact q_upnn hv c_56) hP hD hS (lv_sub hl [0, 3, 4, 5] rfl) hF hs
              exact L47 (((39 : Int32).toInt - (0 : Int32).toInt).toNat + 1) r_this_one 0 1 _ _ _ (Nat.lt_succ_self _) (by decide) hP hD hS (lv_sub hl [0, 1, 2, 3] rfl) hF hs
            · skip
              rw [if_neg c_52] at hF
              rw [if_neg c_52] at hs
              refine lv_iconst (v := (-1)) hx hb dX8_settle_39 (by decide) ?_
              refine lv_goto (tgt := 44) hx hb dX8_settle_40 (by decide) ?_
              refine lv_istore_n (lv' := [(2, .int (-1)), (1, .int x1_3), (0, .ref a_this)]) hx hb dX8_settle_44 rfl hl (by decide) rfl (fun ls hl => ?_)
              refine lv_iconst (v := 0) hx hb dX8_settle_45 (by decide) ?_
              refine lv_istore_n (lv' := [(3, .int 0), (2, .int (-1)), (1, .int x1_3), (0, .ref a_this)]) hx hb dX8_settle_46 rfl hl (by decide) rfl (fun ls hl => ?_)
              have L47 : ∀ (fuel : Nat) (r_this_one_L47 : Nat → Int32) (x3_47 : Int32) (x2_47 : Int32) (H : Heap) (locs : List Loc) (ls : Array Slot), ((39 : Int32).toInt - (x3_47 : Int32).toInt).toNat < fuel → ¬ x3_47 < 0 → va_P D vwCl [(a_this, oX8 a_this_bytes a_this_keys a_this_reg a_this_card a_this_filled a_this_taken a_this_line a_this_one a_this_two o_this), (a_this_one, .inl (k_this_one, 40, .inl r_this_one_L47))] H → va_D A [(a_this, oX8 a_this_bytes a_this_keys a_this_reg a_this_card a_this_filled a_this_taken a_this_line a_this_one a_this_two o_this), (a_this_one, .inl (k_this_one, 40, .inl r_this_one_L47))] → va_S A s.heap H locs → lv_has ls 6 [(3, .int x3_47), (2, .int x2_47), (1, .int x1_3), (0, .ref a_this)] → f_X8_settle_L47 fuel r_this_one_L47 x3_47 x2_47 = F → s_X8_settle_L47  fuel r_this_one_L47 x3_47 x2_47 → W p l e ({ frames := 0, cells := 0, slots := 0, locals := 0 } : Room) s m ([.ref a_this] : List Value).toArray below meth c H locs 0 0 Q (F0 m 47 ls []) := by
                intro fuel
                induction fuel with
                | zero => intro r_this_one_L47 x3_47 x2_47 H locs ls hm; exact absurd hm (Nat.not_lt_zero _)
                | succ fuel ih =>
                  intro r_this_one_L47 x3_47 x2_47 H locs ls hm hv hP hD hS hl hF hs
                  rw [f_X8_settle_L47] at hF
                  rw [s_X8_settle_L47] at hs
                  skip
                  refine lv_iload_n hx hb dX8_settle_47 rfl (lv_at hl 0 rfl) ?_
                  refine lv_bipush (v := 39) hx hb dX8_settle_48 (by decide) ?_
                  refine lv_icmp_ge (tgt := 123) hx hb dX8_settle_50 (by decide) (fun c_68 => ?_) (fun c_68 => ?_)
                  · skip
                    rw [if_pos c_68] at hF
                    rw [if_pos c_68] at hs
                    refine lv_iload_n hx hb dX8_settle_123 rfl (lv_at hl 1 rfl) ?_
                    exact hQ x2_47 (x2_47, r_this_one_L47) _ _ _ _ dX8_settle_124 ⟨hF.symm, rfl⟩ hP hD hS
                  · skip
                    rw [if_neg c_68] at hF
                    rw [if_neg c_68] at hs
                    refine lv_aload_n hx hb dX8_settle_53 rfl (lv_at hl 3 rfl) ?_
                    refine gf_X8_31 (v := .ref a_this_one) hx hb hown ht hK hP 0 rfl rfl dX8_settle_54 ?_
                    refine lv_iload_n hx hb dX8_settle_57 rfl (lv_at hl 0 rfl) ?_
                    obtain ⟨hi_69, hs⟩ := hs
                    refine va_iald hx hb hK hP 1 0 rfl rfl hi_69 dX8_settle_58 ?_
                    refine lv_iload_n hx hb dX8_settle_59 rfl (lv_at hl 1 rfl) ?_
                    refine lv_imul hx hb dX8_settle_60 ?_
                    refine lv_istore (lv' := [(4, .int ((r_this_one_L47 x3_47.toNatClampNeg) * x2_47)), (3, .int x3_47), (2, .int x2_47), (1, .int x1_3), (0, .ref a_this)]) hx hb dX8_settle_61 hl (by decide) rfl (fun ls hl => ?_)
                    refine lv_iload hx hb dX8_settle_63 (lv_at hl 0 rfl) ?_
                    refine lv_bipush (v := 9) hx hb dX8_settle_65 (by decide) ?_
                    refine lv_icmp_le (tgt := 74) hx hb dX8_settle_67 (by decide) (fun c_70 => ?_) (fun c_70 => ?_)
                    · skip
                      rw [if_pos c_70] at hF
                      rw [if_pos c_70] at hs
                      refine lv_iload hx hb dX8_settle_74 (lv_at hl 0 rfl) ?_
                      refine lv_if_ge (tgt := 83) hx hb dX8_settle_76 (by decide) (fun c_71 => ?_) (fun c_71 => ?_)
                      · skip
                        rw [if_pos c_71] at hF
                        rw [if_pos c_71] at hs
                        refine lv_iconst (v := 0) hx hb dX8_settle_83 (by decide) ?_
                        refine lv_istore (lv' := [(5, .int 0), (4, .int ((r_this_one_L47 x3_47.toNatClampNeg) * x2_47)), (3, .int x3_47), (2, .int x2_47), (1, .int x1_3), (0, .ref a_this)]) hx hb dX8_settle_84 hl (by decide) rfl (fun ls hl => ?_)
                        refine lv_aload_n hx hb dX8_settle_86 rfl (lv_at hl 5 rfl) ?_
                        refine gf_X8_31 (v := .ref a_this_one) hx hb hown ht hK hP 0 rfl rfl dX8_settle_87 ?_
                        refine lv_iload_n hx hb dX8_settle_90 rfl (lv_at hl 2 rfl) ?_
                        refine lv_iload hx hb dX8_settle_91 (lv_at hl 1 rfl) ?_
                        refine lv_bipush (v := 10) hx hb dX8_settle_93 (by decide) ?_
                        refine lv_iload hx hb dX8_settle_95 (lv_at hl 0 rfl) ?_
                        refine lv_imul hx hb dX8_settle_97 ?_
                        refine lv_isub hx hb dX8_settle_98 ?_
                        refine lv_iload_n hx hb dX8_settle_99 rfl (lv_at hl 3 rfl) ?_
                        refine lv_imul hx hb dX8_settle_100 ?_
                        obtain ⟨hi_72, hs⟩ := hs
                        refine va_iast hx hb hK hP hD hS 1 0 rfl rfl hi_72 dX8_settle_101 (fun H locs hP hD hS => ?_)
                        have hP : va_P D vwCl [(a_this, oX8 a_this_bytes a_this_keys a_this_reg a_this_card a_this_filled a_this_taken a_this_line a_this_one a_this_two o_this), (a_this_one, .inl (k_this_one, 40, .inl (upd r_this_one_L47 x3_47.toNatClampNeg ((((r_this_one_L47 x3_47.toNatClampNeg) * x2_47) - ((10 : Int32) * (0 : Int32))) * x2_47))))] H := hP
                        have hD : va_D A [(a_this, oX8 a_this_bytes a_this_keys a_this_reg a_this_card a_this_filled a_this_taken a_this_line a_this_one a_this_two o_this), (a_this_one, .inl (k_this_one, 40, .inl (upd r_this_one_L47 x3_47.toNatClampNeg ((((r_this_one_L47 x3_47.toNatClampNeg) * x2_47) - ((10 : Int32) * (0 : Int32))) * x2_47))))] := hD
                        refine lv_aload_n hx hb dX8_settle_102 rfl (lv_at hl 5 rfl) ?_
                        refine gf_X8_31 (v := .ref a_this_one) hx hb hown ht hK hP 0 rfl rfl dX8_settle_103 ?_
                        refine lv_iload_n hx hb dX8_settle_106 rfl (lv_at hl 2 rfl) ?_
                        refine lv_iconst (v := 1) hx hb dX8_settle_107 (by decide) ?_
                        refine lv_iadd hx hb dX8_settle_108 ?_
                        refine lv_dup2_11 hx hb dX8_settle_109 rfl rfl ?_
                        obtain ⟨hi_73, hs⟩ := hs
                        refine va_iald hx hb hK hP 1 0 rfl rfl hi_73 dX8_settle_110 ?_
                        refine lv_iload hx hb dX8_settle_111 (lv_at hl 0 rfl) ?_
                        refine lv_iload_n hx hb dX8_settle_113 rfl (lv_at hl 3 rfl) ?_
                        refine lv_imul hx hb dX8_settle_114 ?_
                        refine lv_iadd hx hb dX8_settle_115 ?_
                        obtain ⟨hi_74, hs⟩ := hs
                        refine va_iast hx hb hK hP hD hS 1 0 rfl rfl hi_74 dX8_settle_116 (fun H locs hP hD hS => ?_)
                        have hP : va_P D vwCl [(a_this, oX8 a_this_bytes a_this_keys a_this_reg a_this_card a_this_filled a_this_taken a_this_line a_this_one a_this_two o_this), (a_this_one, .inl (k_this_one, 40, .inl (upd (upd r_this_one_L47 x3_47.toNatClampNeg ((((r_this_one_L47 x3_47.toNatClampNeg) * x2_47) - ((10 : Int32) * (0 : Int32))) * x2_47)) (x3_47 + (1 : Int32)).toNatClampNeg (((upd r_this_one_L47 x3_47.toNatClampNeg ((((r_this_one_L47 x3_47.toNatClampNeg) * x2_47) - ((10 : Int32) * (0 : Int32))) * x2_47)) (x3_47 + (1 : Int32)).toNatClampNeg) + ((0 : Int32) * x2_47)))))] H := hP
                        have hD : va_D A [(a_this, oX8 a_this_bytes a_this_keys a_this_reg a_this_card a_this_filled a_this_taken a_this_line a_this_one a_this_two o_this), (a_this_one, .inl (k_this_one, 40, .inl (upd (upd r_this_one_L47 x3_47.toNatClampNeg ((((r_this_one_L47 x3_47.toNatClampNeg) * x2_47) - ((10 : Int32) * (0 : Int32))) * x2_47)) (x3_47 + (1 : Int32)).toNatClampNeg (((upd r_this_one_L47 x3_47.toNatClampNeg ((((r_this_one_L47 x3_47.toNatClampNeg) * x2_47) - ((10 : Int32) * (0 : Int32))) * x2_47)) (x3_47 + (1 : Int32)).toNatClampNeg) + ((0 : Int32) * x2_47)))))] := hD
                        refine lv_iinc (v := (x3_47 + (1 : Int32))) (lv' := [(3, .int (x3_47 + (1 : Int32))), (5, .int 0), (4, .int ((r_this_one_L47 x3_47.toNatClampNeg) * x2_47)), (2, .int x2_47), (1, .int x1_3), (0, .ref a_this)]) hx hb dX8_settle_117 hl (k := 2) rfl rfl (by decide) rfl (fun ls hl => ?_)
                        refine lv_goto (tgt := 47) hx hb dX8_settle_120 (by decide) ?_
                        exact ih (upd (upd r_this_one_L47 x3_47.toNatClampNeg ((((r_this_one_L47 x3_47.toNatClampNeg) * x2_47) - ((10 : Int32) * (0 : Int32))) * x2_47)) (x3_47 + (1 : Int32)).toNatClampNeg (((upd r_this_one_L47 x3_47.toNatClampNeg ((((r_this_one_L47 x3_47.toNatClampNeg) * x2_47) - ((10 : Int32) * (0 : Int32))) * x2_47)) (x3_47 + (1 : Int32)).toNatClampNeg) + ((0 : Int32) * x2_47))) (x3_47 + (1 : Int32)) x2_47 _ _ _ (by first | exact q_up hm c_2 | exact q_up hm c_49 | exact q_up hm c_50 | exact q_up hm c_52 | exact q_up hm hv | exact q_up hm c_68 | exact q_up hm c_70 | exact q_up hm c_71) (by first | exact q_upnn hv c_2 | exact q_upnn hv c_49 | exact q_upnn hv c_50 | exact q_upnn hv c_52 | exact q_upnn hv hv | exact q_upnn hv c_68 | exact q_upnn hv c_70 | exact q_upnn hv c_71) hP hD hS (lv_sub hl [0, 3, 4, 5] rfl) hF hs
                      · skip
                        rw [if_neg c_71] at hF
                        rw [if_neg c_71] at hs
                        refine lv_iconst (v := (-1)) hx hb dX8_settle_79 (by decide) ?_
                        refine lv_goto (tgt := 84) hx hb dX8_settle_80 (by decide) ?_
                        refine lv_istore (lv' := [(5, .int (-1)), (4, .int ((r_this_one_L47 x3_47.toNatClampNeg) * x2_47)), (3, .int x3_47), (2, .int x2_47), (1, .int x1_3), (0, .ref a_this)]) hx hb dX8_settle_84 hl (by decide) rfl (fun ls hl => ?_)
                        refine lv_aload_n hx hb dX8_settle_86 rfl (lv_at hl 5 rfl) ?_
                        refine gf_X8_31 (v := .ref a_this_one) hx hb hown ht hK hP 0 rfl rfl dX8_settle_87 ?_
                        refine lv_iload_n hx hb dX8_settle_90 rfl (lv_at hl 2 rfl) ?_
                        refine lv_iload hx hb dX8_settle_91 (lv_at hl 1 rfl) ?_
                        refine lv_bipush (v := 10) hx hb dX8_settle_93 (by decide) ?_
                        refine lv_iload hx hb dX8_settle_95 (lv_at hl 0 rfl) ?_
                        refine lv_imul hx hb dX8_settle_97 ?_
                        refine lv_isub hx hb dX8_settle_98 ?_
                        refine lv_iload_n hx hb dX8_settle_99 rfl (lv_at hl 3 rfl) ?_
                        refine lv_imul hx hb dX8_settle_100 ?_
                        obtain ⟨hi_75, hs⟩ := hs
                        refine va_iast hx hb hK hP hD hS 1 0 rfl rfl hi_75 dX8_settle_101 (fun H locs hP hD hS => ?_)
                        have hP : va_P D vwCl [(a_this, oX8 a_this_bytes a_this_keys a_this_reg a_this_card a_this_filled a_this_taken a_this_line a_this_one a_this_two o_this), (a_this_one, .inl (k_this_one, 40, .inl (upd r_this_one_L47 x3_47.toNatClampNeg ((((r_this_one_L47 x3_47.toNatClampNeg) * x2_47) - ((10 : Int32) * ((-1) : Int32))) * x2_47))))] H := hP
                        have hD : va_D A [(a_this, oX8 a_this_bytes a_this_keys a_this_reg a_this_card a_this_filled a_this_taken a_this_line a_this_one a_this_two o_this), (a_this_one, .inl (k_this_one, 40, .inl (upd r_this_one_L47 x3_47.toNatClampNeg ((((r_this_one_L47 x3_47.toNatClampNeg) * x2_47) - ((10 : Int32) * ((-1) : Int32))) * x2_47))))] := hD
                        refine lv_aload_n hx hb dX8_settle_102 rfl (lv_at hl 5 rfl) ?_
                        refine gf_X8_31 (v := .ref a_this_one) hx hb hown ht hK hP 0 rfl rfl dX8_settle_103 ?_
                        refine lv_iload_n hx hb dX8_settle_106 rfl (lv_at hl 2 rfl) ?_
                        refine lv_iconst (v := 1) hx hb dX8_settle_107 (by decide) ?_
                        refine lv_iadd hx hb dX8_settle_108 ?_
                        refine lv_dup2_11 hx hb dX8_settle_109 rfl rfl ?_
                        obtain ⟨hi_76, hs⟩ := hs
                        refine va_iald hx hb hK hP 1 0 rfl rfl hi_76 dX8_settle_110 ?_
                        refine lv_iload hx hb dX8_settle_111 (lv_at hl 0 rfl) ?_
                        refine lv_iload_n hx hb dX8_settle_113 rfl (lv_at hl 3 rfl) ?_
                        refine lv_imul hx hb dX8_settle_114 ?_
                        refine lv_iadd hx hb dX8_settle_115 ?_
                        obtain ⟨hi_77, hs⟩ := hs
                        refine va_iast hx hb hK hP hD hS 1 0 rfl rfl hi_77 dX8_settle_116 (fun H locs hP hD hS => ?_)
                        have hP : va_P D vwCl [(a_this, oX8 a_this_bytes a_this_keys a_this_reg a_this_card a_this_filled a_this_taken a_this_line a_this_one a_this_two o_this), (a_this_one, .inl (k_this_one, 40, .inl (upd (upd r_this_one_L47 x3_47.toNatClampNeg ((((r_this_one_L47 x3_47.toNatClampNeg) * x2_47) - ((10 : Int32) * ((-1) : Int32))) * x2_47)) (x3_47 + (1 : Int32)).toNatClampNeg (((upd r_this_one_L47 x3_47.toNatClampNeg ((((r_this_one_L47 x3_47.toNatClampNeg) * x2_47) - ((10 : Int32) * ((-1) : Int32))) * x2_47)) (x3_47 + (1 : Int32)).toNatClampNeg) + (((-1) : Int32) * x2_47)))))] H := hP
                        have hD : va_D A [(a_this, oX8 a_this_bytes a_this_keys a_this_reg a_this_card a_this_filled a_this_taken a_this_line a_this_one a_this_two o_this), (a_this_one, .inl (k_this_one, 40, .inl (upd (upd r_this_one_L47 x3_47.toNatClampNeg ((((r_this_one_L47 x3_47.toNatClampNeg) * x2_47) - ((10 : Int32) * ((-1) : Int32))) * x2_47)) (x3_47 + (1 : Int32)).toNatClampNeg (((upd r_this_one_L47 x3_47.toNatClampNeg ((((r_this_one_L47 x3_47.toNatClampNeg) * x2_47) - ((10 : Int32) * ((-1) : Int32))) * x2_47)) (x3_47 + (1 : Int32)).toNatClampNeg) + (((-1) : Int32) * x2_47)))))] := hD
                        refine lv_iinc (v := (x3_47 + (1 : Int32))) (lv' := [(3, .int (x3_47 + (1 : Int32))), (5, .int (-1)), (4, .int ((r_this_one_L47 x3_47.toNatClampNeg) * x2_47)), (2, .int x2_47), (1, .int x1_3), (0, .ref a_this)]) hx hb dX8_settle_117 hl (k := 2) rfl rfl (by decide) rfl (fun ls hl => ?_)
                        refine lv_goto (tgt := 47) hx hb dX8_settle_120 (by decide) ?_
                        exact ih (upd (upd r_this_one_L47 x3_47.toNatClampNeg ((((r_this_one_L47 x3_47.toNatClampNeg) * x2_47) - ((10 : Int32) * ((-1) : Int32))) * x2_47)) (x3_47 + (1 : Int32)).toNatClampNeg (((upd r_this_one_L47 x3_47.toNatClampNeg ((((r_this_one_L47 x3_47.toNatClampNeg) * x2_47) - ((10 : Int32) * ((-1) : Int32))) * x2_47)) (x3_47 + (1 : Int32)).toNatClampNeg) + (((-1) : Int32) * x2_47))) (x3_47 + (1 : Int32)) x2_47 _ _ _ (by first | exact q_up hm c_2 | exact q_up hm c_49 | exact q_up hm c_50 | exact q_up hm c_52 | exact q_up hm hv | exact q_up hm c_68 | exact q_up hm c_70 | exact q_up hm c_71) (by first | exact q_upnn hv c_2 | exact q_upnn hv c_49 | exact q_upnn hv c_50 | exact q_upnn hv c_52 | exact q_upnn hv hv | exact q_upnn hv c_68 | exact q_upnn hv c_70 | exact q_upnn hv c_71) hP hD hS (lv_sub hl [0, 3, 4, 5] rfl) hF hs
                    · skip
                      rw [if_neg c_70] at hF
                      rw [if_neg c_70] at hs
                      refine lv_iconst (v := 1) hx hb dX8_settle_70 (by decide) ?_
                      refine lv_goto (tgt := 84) hx hb dX8_settle_71 (by decide) ?_
                      refine lv_istore (lv' := [(5, .int 1), (4, .int ((r_this_one_L47 x3_47.toNatClampNeg) * x2_47)), (3, .int x3_47), (2, .int x2_47), (1, .int x1_3), (0, .ref a_this)]) hx hb dX8_settle_84 hl (by decide) rfl (fun ls hl => ?_)
                      refine lv_aload_n hx hb dX8_settle_86 rfl (lv_at hl 5 rfl) ?_
                      refine gf_X8_31 (v := .ref a_this_one) hx hb hown ht hK hP 0 rfl rfl dX8_settle_87 ?_
                      refine lv_iload_n hx hb dX8_settle_90 rfl (lv_at hl 2 rfl) ?_
                      refine lv_iload hx hb dX8_settle_91 (lv_at hl 1 rfl) ?_
                      refine lv_bipush (v := 10) hx hb dX8_settle_93 (by decide) ?_
                      refine lv_iload hx hb dX8_settle_95 (lv_at hl 0 rfl) ?_
                      refine lv_imul hx hb dX8_settle_97 ?_
                      refine lv_isub hx hb dX8_settle_98 ?_
                      refine lv_iload_n hx hb dX8_settle_99 rfl (lv_at hl 3 rfl) ?_
                      refine lv_imul hx hb dX8_settle_100 ?_
                      obtain ⟨hi_78, hs⟩ := hs
                      refine va_iast hx hb hK hP hD hS 1 0 rfl rfl hi_78 dX8_settle_101 (fun H locs hP hD hS => ?_)
                      have hP : va_P D vwCl [(a_this, oX8 a_this_bytes a_this_keys a_this_reg a_this_card a_this_filled a_this_taken a_this_line a_this_one a_this_two o_this), (a_this_one, .inl (k_this_one, 40, .inl (upd r_this_one_L47 x3_47.toNatClampNeg ((((r_this_one_L47 x3_47.toNatClampNeg) * x2_47) - ((10 : Int32) * (1 : Int32))) * x2_47))))] H := hP
                      have hD : va_D A [(a_this, oX8 a_this_bytes a_this_keys a_this_reg a_this_card a_this_filled a_this_taken a_this_line a_this_one a_this_two o_this), (a_this_one, .inl (k_this_one, 40, .inl (upd r_this_one_L47 x3_47.toNatClampNeg ((((r_this_one_L47 x3_47.toNatClampNeg) * x2_47) - ((10 : Int32) * (1 : Int32))) * x2_47))))] := hD
                      refine lv_aload_n hx hb dX8_settle_102 rfl (lv_at hl 5 rfl) ?_
                      refine gf_X8_31 (v := .ref a_this_one) hx hb hown ht hK hP 0 rfl rfl dX8_settle_103 ?_
                      refine lv_iload_n hx hb dX8_settle_106 rfl (lv_at hl 2 rfl) ?_
                      refine lv_iconst (v := 1) hx hb dX8_settle_107 (by decide) ?_
                      refine lv_iadd hx hb dX8_settle_108 ?_
                      refine lv_dup2_11 hx hb dX8_settle_109 rfl rfl ?_
                      obtain ⟨hi_79, hs⟩ := hs
                      refine va_iald hx hb hK hP 1 0 rfl rfl hi_79 dX8_settle_110 ?_
                      refine lv_iload hx hb dX8_settle_111 (lv_at hl 0 rfl) ?_
                      refine lv_iload_n hx hb dX8_settle_113 rfl (lv_at hl 3 rfl) ?_
                      refine lv_imul hx hb dX8_settle_114 ?_
                      refine lv_iadd hx hb dX8_settle_115 ?_
                      obtain ⟨hi_80, hs⟩ := hs
                      refine va_iast hx hb hK hP hD hS 1 0 rfl rfl hi_80 dX8_settle_116 (fun H locs hP hD hS => ?_)
                      have hP : va_P D vwCl [(a_this, oX8 a_this_bytes a_this_keys a_this_reg a_this_card a_this_filled a_this_taken a_this_line a_this_one a_this_two o_this), (a_this_one, .inl (k_this_one, 40, .inl (upd (upd r_this_one_L47 x3_47.toNatClampNeg ((((r_this_one_L47 x3_47.toNatClampNeg) * x2_47) - ((10 : Int32) * (1 : Int32))) * x2_47)) (x3_47 + (1 : Int32)).toNatClampNeg (((upd r_this_one_L47 x3_47.toNatClampNeg ((((r_this_one_L47 x3_47.toNatClampNeg) * x2_47) - ((10 : Int32) * (1 : Int32))) * x2_47)) (x3_47 + (1 : Int32)).toNatClampNeg) + ((1 : Int32) * x2_47)))))] H := hP
                      have hD : va_D A [(a_this, oX8 a_this_bytes a_this_keys a_this_reg a_this_card a_this_filled a_this_taken a_this_line a_this_one a_this_two o_this), (a_this_one, .inl (k_this_one, 40, .inl (upd (upd r_this_one_L47 x3_47.toNatClampNeg ((((r_this_one_L47 x3_47.toNatClampNeg) * x2_47) - ((10 : Int32) * (1 : Int32))) * x2_47)) (x3_47 + (1 : Int32)).toNatClampNeg (((upd r_this_one_L47 x3_47.toNatClampNeg ((((r_this_one_L47 x3_47.toNatClampNeg) * x2_47) - ((10 : Int32) * (1 : Int32))) * x2_47)) (x3_47 + (1 : Int32)).toNatClampNeg) + ((1 : Int32) * x2_47)))))] := hD
                      refine lv_iinc (v := (x3_47 + (1 : Int32))) (lv' := [(3, .int (x3_47 + (1 : Int32))), (5, .int 1), (4, .int ((r_this_one_L47 x3_47.toNatClampNeg) * x2_47)), (2, .int x2_47), (1, .int x1_3), (0, .ref a_this)]) hx hb dX8_settle_117 hl (k := 2) rfl rfl (by decide) rfl (fun ls hl => ?_)
                      refine lv_goto (tgt := 47) hx hb dX8_settle_120 (by decide) ?_
                      exact ih (upd (upd r_this_one_L47 x3_47.toNatClampNeg ((((r_this_one_L47 x3_47.toNatClampNeg) * x2_47) - ((10 : Int32) * (1 : Int32))) * x2_47)) (x3_47 + (1 : Int32)).toNatClampNeg (((upd r_this_one_L47 x3_47.toNatClampNeg ((((r_this_one_L47 x3_47.toNatClampNeg) * x2_47) - ((10 : Int32) * (1 : Int32))) * x2_47)) (x3_47 + (1 : Int32)).toNatClampNeg) + ((1 : Int32) * x2_47))) (x3_47 + (1 : Int32)) x2_47 _ _ _ (by first | exact q_up hm c_2 | exact q_up hm c_49 | exact q_up hm c_50 | exact q_up hm c_52 | exact q_up hm hv | exact q_up hm c_68 | exact q_up hm c_70) (by first | exact q_upnn hv c_2 | exact q_upnn hv c_49 | exact q_upnn hv c_50 | exact q_upnn hv c_52 | exact q_upnn hv hv | exact q_upnn hv c_68 | exact q_upnn hv c_70) hP hD hS (lv_sub hl [0, 3, 4, 5] rfl) hF hs
              exact L47 (((39 : Int32).toInt - (0 : Int32).toInt).toNat + 1) r_this_one 0 (-1) _ _ _ (Nat.lt_succ_self _) (by decide) hP hD hS (lv_sub hl [0, 1, 2, 3] rfl) hF hs
          · skip
            rw [if_neg c_50] at hF
            rw [if_neg c_50] at hs
            refine lv_iconst (v := 0) hx hb dX8_settle_26 (by decide) ?_
            refine lv_goto (tgt := 44) hx hb dX8_settle_27 (by decide) ?_
            refine lv_istore_n (lv' := [(2, .int 0), (1, .int x1_3), (0, .ref a_this)]) hx hb dX8_settle_44 rfl hl (by decide) rfl (fun ls hl => ?_)
            refine lv_iconst (v := 0) hx hb dX8_settle_45 (by decide) ?_
            refine lv_istore_n (lv' := [(3, .int 0), (2, .int 0), (1, .int x1_3), (0, .ref a_this)]) hx hb dX8_settle_46 rfl hl (by decide) rfl (fun ls hl => ?_)
            have L47 : ∀ (fuel : Nat) (r_this_one_L47 : Nat → Int32) (x3_47 : Int32) (x2_47 : Int32) (H : Heap) (locs : List Loc) (ls : Array Slot), ((39 : Int32).toInt - (x3_47 : Int32).toInt).toNat < fuel → ¬ x3_47 < 0 → va_P D vwCl [(a_this, oX8 a_this_bytes a_this_keys a_this_reg a_this_card a_this_filled a_this_taken a_this_line a_this_one a_this_two o_this), (a_this_one, .inl (k_this_one, 40, .inl r_this_one_L47))] H → va_D A [(a_this, oX8 a_this_bytes a_this_keys a_this_reg a_this_card a_this_filled a_this_taken a_this_line a_this_one a_this_two o_this), (a_this_one, .inl (k_this_one, 40, .inl r_this_one_L47))] → va_S A s.heap H locs → lv_has ls 6 [(3, .int x3_47), (2, .int x2_47), (1, .int x1_3), (0, .ref a_this)] → f_X8_settle_L47 fuel r_this_one_L47 x3_47 x2_47 = F → s_X8_settle_L47  fuel r_this_one_L47 x3_47 x2_47 → W p l e ({ frames := 0, cells := 0, slots := 0, locals := 0 } : Room) s m ([.ref a_this] : List Value).toArray below meth c H locs 0 0 Q (F0 m 47 ls []) := by
              intro fuel
              induction fuel with
              | zero => intro r_this_one_L47 x3_47 x2_47 H locs ls hm; exact absurd hm (Nat.not_lt_zero _)
              | succ fuel ih =>
                intro r_this_one_L47 x3_47 x2_47 H locs ls hm hv hP hD hS hl hF hs
                rw [f_X8_settle_L47] at hF
                rw [s_X8_settle_L47] at hs
                skip
                refine lv_iload_n hx hb dX8_settle_47 rfl (lv_at hl 0 rfl) ?_
                refine lv_bipush (v := 39) hx hb dX8_settle_48 (by decide) ?_
                refine lv_icmp_ge (tgt := 123) hx hb dX8_settle_50 (by decide) (fun c_82 => ?_) (fun c_82 => ?_)
                · skip
                  rw [if_pos c_82] at hF
                  rw [if_pos c_82] at hs
                  refine lv_iload_n hx hb dX8_settle_123 rfl (lv_at hl 1 rfl) ?_
                  exact hQ x2_47 (x2_47, r_this_one_L47) _ _ _ _ dX8_settle_124 ⟨hF.symm, rfl⟩ hP hD hS
                · skip
                  rw [if_neg c_82] at hF
                  rw [if_neg c_82] at hs
                  refine lv_aload_n hx hb dX8_settle_53 rfl (lv_at hl 3 rfl) ?_
                  refine gf_X8_31 (v := .ref a_this_one) hx hb hown ht hK hP 0 rfl rfl dX8_settle_54 ?_
                  refine lv_iload_n hx hb dX8_settle_57 rfl (lv_at hl 0 rfl) ?_
                  obtain ⟨hi_83, hs⟩ := hs
                  refine va_iald hx hb hK hP 1 0 rfl rfl hi_83 dX8_settle_58 ?_
                  refine lv_iload_n hx hb dX8_settle_59 rfl (lv_at hl 1 rfl) ?_
                  refine lv_imul hx hb dX8_settle_60 ?_
                  refine lv_istore (lv' := [(4, .int ((r_this_one_L47 x3_47.toNatClampNeg) * x2_47)), (3, .int x3_47), (2, .int x2_47), (1, .int x1_3), (0, .ref a_this)]) hx hb dX8_settle_61 hl (by decide) rfl (fun ls hl => ?_)
                  refine lv_iload hx hb dX8_settle_63 (lv_at hl 0 rfl) ?_
                  refine lv_bipush (v := 9) hx hb dX8_settle_65 (by decide) ?_
                  refine lv_icmp_le (tgt := 74) hx hb dX8_settle_67 (by decide) (fun c_84 => ?_) (fun c_84 => ?_)
                  · skip
                    rw [if_pos c_84] at hF
                    rw [if_pos c_84] at hs
                    refine lv_iload hx hb dX8_settle_74 (lv_at hl 0 rfl) ?_
                    refine lv_if_ge (tgt := 83) hx hb dX8_settle_76 (by decide) (fun c_85 => ?_) (fun c_85 => ?_)
                    · skip
                      rw [if_pos c_85] at hF
                      rw [if_pos c_85] at hs
                      refine lv_iconst (v := 0) hx hb dX8_settle_83 (by decide) ?_
                      refine lv_istore (lv' := [(5, .int 0), (4, .int ((r_this_one_L47 x3_47.toNatClampNeg) * x2_47)), (3, .int x3_47), (2, .int x2_47), (1, .int x1_3), (0, .ref a_this)]) hx hb dX8_settle_84 hl (by decide) rfl (fun ls hl => ?_)
                      refine lv_aload_n hx hb dX8_settle_86 rfl (lv_at hl 5 rfl) ?_
                      refine gf_X8_31 (v := .ref a_this_one) hx hb hown ht hK hP 0 rfl rfl dX8_settle_87 ?_
                      refine lv_iload_n hx hb dX8_settle_90 rfl (lv_at hl 2 rfl) ?_
                      refine lv_iload hx hb dX8_settle_91 (lv_at hl 1 rfl) ?_
                      refine lv_bipush (v := 10) hx hb dX8_settle_93 (by decide) ?_
                      refine lv_iload hx hb dX8_settle_95 (lv_at hl 0 rfl) ?_
                      refine lv_imul hx hb dX8_settle_97 ?_
                      refine lv_isub hx hb dX8_settle_98 ?_
                      refine lv_iload_n hx hb dX8_settle_99 rfl (lv_at hl 3 rfl) ?_
                      refine lv_imul hx hb dX8_settle_100 ?_
                      obtain ⟨hi_86, hs⟩ := hs
                      refine va_iast hx hb hK hP hD hS 1 0 rfl rfl hi_86 dX8_settle_101 (fun H locs hP hD hS => ?_)
                      have hP : va_P D vwCl [(a_this, oX8 a_this_bytes a_this_keys a_this_reg a_this_card a_this_filled a_this_taken a_this_line a_this_one a_this_two o_this), (a_this_one, .inl (k_this_one, 40, .inl (upd r_this_one_L47 x3_47.toNatClampNeg ((((r_this_one_L47 x3_47.toNatClampNeg) * x2_47) - ((10 : Int32) * (0 : Int32))) * x2_47))))] H := hP
                      have hD : va_D A [(a_this, oX8 a_this_bytes a_this_keys a_this_reg a_this_card a_this_filled a_this_taken a_this_line a_this_one a_this_two o_this), (a_this_one, .inl (k_this_one, 40, .inl (upd r_this_one_L47 x3_47.toNatClampNeg ((((r_this_one_L47 x3_47.toNatClampNeg) * x2_47) - ((10 : Int32) * (0 : Int32))) * x2_47))))] := hD
                      refine lv_aload_n hx hb dX8_settle_102 rfl (lv_at hl 5 rfl) ?_
                      refine gf_X8_31 (v := .ref a_this_one) hx hb hown ht hK hP 0 rfl rfl dX8_settle_103 ?_
                      refine lv_iload_n hx hb dX8_settle_106 rfl (lv_at hl 2 rfl) ?_
                      refine lv_iconst (v := 1) hx hb dX8_settle_107 (by decide) ?_
                      refine lv_iadd hx hb dX8_settle_108 ?_
                      refine lv_dup2_11 hx hb dX8_settle_109 rfl rfl ?_
                      obtain ⟨hi_87, hs⟩ := hs
                      refine va_iald hx hb hK hP 1 0 rfl rfl hi_87 dX8_settle_110 ?_
                      refine lv_iload hx hb dX8_settle_111 (lv_at hl 0 rfl) ?_
                      refine lv_iload_n hx hb dX8_settle_113 rfl (lv_at hl 3 rfl) ?_
                      refine lv_imul hx hb dX8_settle_114 ?_
                      refine lv_iadd hx hb dX8_settle_115 ?_
                      obtain ⟨hi_88, hs⟩ := hs
                      refine va_iast hx hb hK hP hD hS 1 0 rfl rfl hi_88 dX8_settle_116 (fun H locs hP hD hS => ?_)
                      have hP : va_P D vwCl [(a_this, oX8 a_this_bytes a_this_keys a_this_reg a_this_card a_this_filled a_this_taken a_this_line a_this_one a_this_two o_this), (a_this_one, .inl (k_this_one, 40, .inl (upd (upd r_this_one_L47 x3_47.toNatClampNeg ((((r_this_one_L47 x3_47.toNatClampNeg) * x2_47) - ((10 : Int32) * (0 : Int32))) * x2_47)) (x3_47 + (1 : Int32)).toNatClampNeg (((upd r_this_one_L47 x3_47.toNatClampNeg ((((r_this_one_L47 x3_47.toNatClampNeg) * x2_47) - ((10 : Int32) * (0 : Int32))) * x2_47)) (x3_47 + (1 : Int32)).toNatClampNeg) + ((0 : Int32) * x2_47)))))] H := hP
                      have hD : va_D A [(a_this, oX8 a_this_bytes a_this_keys a_this_reg a_this_card a_this_filled a_this_taken a_this_line a_this_one a_this_two o_this), (a_this_one, .inl (k_this_one, 40, .inl (upd (upd r_this_one_L47 x3_47.toNatClampNeg ((((r_this_one_L47 x3_47.toNatClampNeg) * x2_47) - ((10 : Int32) * (0 : Int32))) * x2_47)) (x3_47 + (1 : Int32)).toNatClampNeg (((upd r_this_one_L47 x3_47.toNatClampNeg ((((r_this_one_L47 x3_47.toNatClampNeg) * x2_47) - ((10 : Int32) * (0 : Int32))) * x2_47)) (x3_47 + (1 : Int32)).toNatClampNeg) + ((0 : Int32) * x2_47)))))] := hD
                      refine lv_iinc (v := (x3_47 + (1 : Int32))) (lv' := [(3, .int (x3_47 + (1 : Int32))), (5, .int 0), (4, .int ((r_this_one_L47 x3_47.toNatClampNeg) * x2_47)), (2, .int x2_47), (1, .int x1_3), (0, .ref a_this)]) hx hb dX8_settle_117 hl (k := 2) rfl rfl (by decide) rfl (fun ls hl => ?_)
                      refine lv_goto (tgt := 47) hx hb dX8_settle_120 (by decide) ?_
                      exact ih (upd (upd r_this_one_L47 x3_47.toNatClampNeg ((((r_this_one_L47 x3_47.toNatClampNeg) * x2_47) - ((10 : Int32) * (0 : Int32))) * x2_47)) (x3_47 + (1 : Int32)).toNatClampNeg (((upd r_this_one_L47 x3_47.toNatClampNeg ((((r_this_one_L47 x3_47.toNatClampNeg) * x2_47) - ((10 : Int32) * (0 : Int32))) * x2_47)) (x3_47 + (1 : Int32)).toNatClampNeg) + ((0 : Int32) * x2_47))) (x3_47 + (1 : Int32)) x2_47 _ _ _ (by first | exact q_up hm c_2 | exact q_up hm c_49 | exact q_up hm c_50 | exact q_up hm hv | exact q_up hm c_82 | exact q_up hm c_84 | exact q_up hm c_85) (by first | exact q_upnn hv c_2 | exact q_upnn hv c_49 | exact q_upnn hv c_50 | exact q_upnn hv hv | exact q_upnn hv c_82 | exact q_upnn hv c_84 | exact q_upnn hv c_85) hP hD hS (lv_sub hl [0, 3, 4, 5] rfl) hF hs
                    · skip
                      rw [if_neg c_85] at hF
                      rw [if_neg c_85] at hs
                      refine lv_iconst (v := (-1)) hx hb dX8_settle_79 (by decide) ?_
                      refine lv_goto (tgt := 84) hx hb dX8_settle_80 (by decide) ?_
                      refine lv_istore (lv' := [(5, .int (-1)), (4, .int ((r_this_one_L47 x3_47.toNatClampNeg) * x2_47)), (3, .int x3_47), (2, .int x2_47), (1, .int x1_3), (0, .ref a_this)]) hx hb dX8_settle_84 hl (by decide) rfl (fun ls hl => ?_)
                      refine lv_aload_n hx hb dX8_settle_86 rfl (lv_at hl 5 rfl) ?_
                      refine gf_X8_31 (v := .ref a_this_one) hx hb hown ht hK hP 0 rfl rfl dX8_settle_87 ?_
                      refine lv_iload_n hx hb dX8_settle_90 rfl (lv_at hl 2 rfl) ?_
                      refine lv_iload hx hb dX8_settle_91 (lv_at hl 1 rfl) ?_
                      refine lv_bipush (v := 10) hx hb dX8_settle_93 (by decide) ?_
                      refine lv_iload hx hb dX8_settle_95 (lv_at hl 0 rfl) ?_
                      refine lv_imul hx hb dX8_settle_97 ?_
                      refine lv_isub hx hb dX8_settle_98 ?_
                      refine lv_iload_n hx hb dX8_settle_99 rfl (lv_at hl 3 rfl) ?_
                      refine lv_imul hx hb dX8_settle_100 ?_
                      obtain ⟨hi_89, hs⟩ := hs
                      refine va_iast hx hb hK hP hD hS 1 0 rfl rfl hi_89 dX8_settle_101 (fun H locs hP hD hS => ?_)
                      have hP : va_P D vwCl [(a_this, oX8 a_this_bytes a_this_keys a_this_reg a_this_card a_this_filled a_this_taken a_this_line a_this_one a_this_two o_this), (a_this_one, .inl (k_this_one, 40, .inl (upd r_this_one_L47 x3_47.toNatClampNeg ((((r_this_one_L47 x3_47.toNatClampNeg) * x2_47) - ((10 : Int32) * ((-1) : Int32))) * x2_47))))] H := hP
                      have hD : va_D A [(a_this, oX8 a_this_bytes a_this_keys a_this_reg a_this_card a_this_filled a_this_taken a_this_line a_this_one a_this_two o_this), (a_this_one, .inl (k_this_one, 40, .inl (upd r_this_one_L47 x3_47.toNatClampNeg ((((r_this_one_L47 x3_47.toNatClampNeg) * x2_47) - ((10 : Int32) * ((-1) : Int32))) * x2_47))))] := hD
                      refine lv_aload_n hx hb dX8_settle_102 rfl (lv_at hl 5 rfl) ?_
                      refine gf_X8_31 (v := .ref a_this_one) hx hb hown ht hK hP 0 rfl rfl dX8_settle_103 ?_
                      refine lv_iload_n hx hb dX8_settle_106 rfl (lv_at hl 2 rfl) ?_
                      refine lv_iconst (v := 1) hx hb dX8_settle_107 (by decide) ?_
                      refine lv_iadd hx hb dX8_settle_108 ?_
                      refine lv_dup2_11 hx hb dX8_settle_109 rfl rfl ?_
                      obtain ⟨hi_90, hs⟩ := hs
                      refine va_iald hx hb hK hP 1 0 rfl rfl hi_90 dX8_settle_110 ?_
                      refine lv_iload hx hb dX8_settle_111 (lv_at hl 0 rfl) ?_
                      refine lv_iload_n hx hb dX8_settle_113 rfl (lv_at hl 3 rfl) ?_
                      refine lv_imul hx hb dX8_settle_114 ?_
                      refine lv_iadd hx hb dX8_settle_115 ?_
                      obtain ⟨hi_91, hs⟩ := hs
                      refine va_iast hx hb hK hP hD hS 1 0 rfl rfl hi_91 dX8_settle_116 (fun H locs hP hD hS => ?_)
                      have hP : va_P D vwCl [(a_this, oX8 a_this_bytes a_this_keys a_this_reg a_this_card a_this_filled a_this_taken a_this_line a_this_one a_this_two o_this), (a_this_one, .inl (k_this_one, 40, .inl (upd (upd r_this_one_L47 x3_47.toNatClampNeg ((((r_this_one_L47 x3_47.toNatClampNeg) * x2_47) - ((10 : Int32) * ((-1) : Int32))) * x2_47)) (x3_47 + (1 : Int32)).toNatClampNeg (((upd r_this_one_L47 x3_47.toNatClampNeg ((((r_this_one_L47 x3_47.toNatClampNeg) * x2_47) - ((10 : Int32) * ((-1) : Int32))) * x2_47)) (x3_47 + (1 : Int32)).toNatClampNeg) + (((-1) : Int32) * x2_47)))))] H := hP
                      have hD : va_D A [(a_this, oX8 a_this_bytes a_this_keys a_this_reg a_this_card a_this_filled a_this_taken a_this_line a_this_one a_this_two o_this), (a_this_one, .inl (k_this_one, 40, .inl (upd (upd r_this_one_L47 x3_47.toNatClampNeg ((((r_this_one_L47 x3_47.toNatClampNeg) * x2_47) - ((10 : Int32) * ((-1) : Int32))) * x2_47)) (x3_47 + (1 : Int32)).toNatClampNeg (((upd r_this_one_L47 x3_47.toNatClampNeg ((((r_this_one_L47 x3_47.toNatClampNeg) * x2_47) - ((10 : Int32) * ((-1) : Int32))) * x2_47)) (x3_47 + (1 : Int32)).toNatClampNeg) + (((-1) : Int32) * x2_47)))))] := hD
                      refine lv_iinc (v := (x3_47 + (1 : Int32))) (lv' := [(3, .int (x3_47 + (1 : Int32))), (5, .int (-1)), (4, .int ((r_this_one_L47 x3_47.toNatClampNeg) * x2_47)), (2, .int x2_47), (1, .int x1_3), (0, .ref a_this)]) hx hb dX8_settle_117 hl (k := 2) rfl rfl (by decide) rfl (fun ls hl => ?_)
                      refine lv_goto (tgt := 47) hx hb dX8_settle_120 (by decide) ?_
                      exact ih (upd (upd r_this_one_L47 x3_47.toNatClampNeg ((((r_this_one_L47 x3_47.toNatClampNeg) * x2_47) - ((10 : Int32) * ((-1) : Int32))) * x2_47)) (x3_47 + (1 : Int32)).toNatClampNeg (((upd r_this_one_L47 x3_47.toNatClampNeg ((((r_this_one_L47 x3_47.toNatClampNeg) * x2_47) - ((10 : Int32) * ((-1) : Int32))) * x2_47)) (x3_47 + (1 : Int32)).toNatClampNeg) + (((-1) : Int32) * x2_47))) (x3_47 + (1 : Int32)) x2_47 _ _ _ (by first | exact q_up hm c_2 | exact q_up hm c_49 | exact q_up hm c_50 | exact q_up hm hv | exact q_up hm c_82 | exact q_up hm c_84 | exact q_up hm c_85) (by first | exact q_upnn hv c_2 | exact q_upnn hv c_49 | exact q_upnn hv c_50 | exact q_upnn hv hv | exact q_upnn hv c_82 | exact q_upnn hv c_84 | exact q_upnn hv c_85) hP hD hS (lv_sub hl [0, 3, 4, 5] rfl) hF hs
                  · skip
                    rw [if_neg c_84] at hF
                    rw [if_neg c_84] at hs
                    refine lv_iconst (v := 1) hx hb dX8_settle_70 (by decide) ?_
                    refine lv_goto (tgt := 84) hx hb dX8_settle_71 (by decide) ?_
                    refine lv_istore (lv' := [(5, .int 1), (4, .int ((r_this_one_L47 x3_47.toNatClampNeg) * x2_47)), (3, .int x3_47), (2, .int x2_47), (1, .int x1_3), (0, .ref a_this)]) hx hb dX8_settle_84 hl (by decide) rfl (fun ls hl => ?_)
                    refine lv_aload_n hx hb dX8_settle_86 rfl (lv_at hl 5 rfl) ?_
                    refine gf_X8_31 (v := .ref a_this_one) hx hb hown ht hK hP 0 rfl rfl dX8_settle_87 ?_
                    refine lv_iload_n hx hb dX8_settle_90 rfl (lv_at hl 2 rfl) ?_
                    refine lv_iload hx hb dX8_settle_91 (lv_at hl 1 rfl) ?_
                    refine lv_bipush (v := 10) hx hb dX8_settle_93 (by decide) ?_
                    refine lv_iload hx hb dX8_settle_95 (lv_at hl 0 rfl) ?_
                    refine lv_imul hx hb dX8_settle_97 ?_
                    refine lv_isub hx hb dX8_settle_98 ?_
                    refine lv_iload_n hx hb dX8_settle_99 rfl (lv_at hl 3 rfl) ?_
                    refine lv_imul hx hb dX8_settle_100 ?_
                    obtain ⟨hi_92, hs⟩ := hs
                    refine va_iast hx hb hK hP hD hS 1 0 rfl rfl hi_92 dX8_settle_101 (fun H locs hP hD hS => ?_)
                    have hP : va_P D vwCl [(a_this, oX8 a_this_bytes a_this_keys a_this_reg a_this_card a_this_filled a_this_taken a_this_line a_this_one a_this_two o_this), (a_this_one, .inl (k_this_one, 40, .inl (upd r_this_one_L47 x3_47.toNatClampNeg ((((r_this_one_L47 x3_47.toNatClampNeg) * x2_47) - ((10 : Int32) * (1 : Int32))) * x2_47))))] H := hP
                    have hD : va_D A [(a_this, oX8 a_this_bytes a_this_keys a_this_reg a_this_card a_this_filled a_this_taken a_this_line a_this_one a_this_two o_this), (a_this_one, .inl (k_this_one, 40, .inl (upd r_this_one_L47 x3_47.toNatClampNeg ((((r_this_one_L47 x3_47.toNatClampNeg) * x2_47) - ((10 : Int32) * (1 : Int32))) * x2_47))))] := hD
                    refine lv_aload_n hx hb dX8_settle_102 rfl (lv_at hl 5 rfl) ?_
                    refine gf_X8_31 (v := .ref a_this_one) hx hb hown ht hK hP 0 rfl rfl dX8_settle_103 ?_
                    refine lv_iload_n hx hb dX8_settle_106 rfl (lv_at hl 2 rfl) ?_
                    refine lv_iconst (v := 1) hx hb dX8_settle_107 (by decide) ?_
                    refine lv_iadd hx hb dX8_settle_108 ?_
                    refine lv_dup2_11 hx hb dX8_settle_109 rfl rfl ?_
                    obtain ⟨hi_93, hs⟩ := hs
                    refine va_iald hx hb hK hP 1 0 rfl rfl hi_93 dX8_settle_110 ?_
                    refine lv_iload hx hb dX8_settle_111 (lv_at hl 0 rfl) ?_
                    refine lv_iload_n hx hb dX8_settle_113 rfl (lv_at hl 3 rfl) ?_
                    refine lv_imul hx hb dX8_settle_114 ?_
                    refine lv_iadd hx hb dX8_settle_115 ?_
                    obtain ⟨hi_94, hs⟩ := hs
                    refine va_iast hx hb hK hP hD hS 1 0 rfl rfl hi_94 dX8_settle_116 (fun H locs hP hD hS => ?_)
                    have hP : va_P D vwCl [(a_this, oX8 a_this_bytes a_this_keys a_this_reg a_this_card a_this_filled a_this_taken a_this_line a_this_one a_this_two o_this), (a_this_one, .inl (k_this_one, 40, .inl (upd (upd r_this_one_L47 x3_47.toNatClampNeg ((((r_this_one_L47 x3_47.toNatClampNeg) * x2_47) - ((10 : Int32) * (1 : Int32))) * x2_47)) (x3_47 + (1 : Int32)).toNatClampNeg (((upd r_this_one_L47 x3_47.toNatClampNeg ((((r_this_one_L47 x3_47.toNatClampNeg) * x2_47) - ((10 : Int32) * (1 : Int32))) * x2_47)) (x3_47 + (1 : Int32)).toNatClampNeg) + ((1 : Int32) * x2_47)))))] H := hP
                    have hD : va_D A [(a_this, oX8 a_this_bytes a_this_keys a_this_reg a_this_card a_this_filled a_this_taken a_this_line a_this_one a_this_two o_this), (a_this_one, .inl (k_this_one, 40, .inl (upd (upd r_this_one_L47 x3_47.toNatClampNeg ((((r_this_one_L47 x3_47.toNatClampNeg) * x2_47) - ((10 : Int32) * (1 : Int32))) * x2_47)) (x3_47 + (1 : Int32)).toNatClampNeg (((upd r_this_one_L47 x3_47.toNatClampNeg ((((r_this_one_L47 x3_47.toNatClampNeg) * x2_47) - ((10 : Int32) * (1 : Int32))) * x2_47)) (x3_47 + (1 : Int32)).toNatClampNeg) + ((1 : Int32) * x2_47)))))] := hD
                    refine lv_iinc (v := (x3_47 + (1 : Int32))) (lv' := [(3, .int (x3_47 + (1 : Int32))), (5, .int 1), (4, .int ((r_this_one_L47 x3_47.toNatClampNeg) * x2_47)), (2, .int x2_47), (1, .int x1_3), (0, .ref a_this)]) hx hb dX8_settle_117 hl (k := 2) rfl rfl (by decide) rfl (fun ls hl => ?_)
                    refine lv_goto (tgt := 47) hx hb dX8_settle_120 (by decide) ?_
                    exact ih (upd (upd r_this_one_L47 x3_47.toNatClampNeg ((((r_this_one_L47 x3_47.toNatClampNeg) * x2_47) - ((10 : Int32) * (1 : Int32))) * x2_47)) (x3_47 + (1 : Int32)).toNatClampNeg (((upd r_this_one_L47 x3_47.toNatClampNeg ((((r_this_one_L47 x3_47.toNatClampNeg) * x2_47) - ((10 : Int32) * (1 : Int32))) * x2_47)) (x3_47 + (1 : Int32)).toNatClampNeg) + ((1 : Int32) * x2_47))) (x3_47 + (1 : Int32)) x2_47 _ _ _ (by first | exact q_up hm c_2 | exact q_up hm c_49 | exact q_up hm c_50 | exact q_up hm hv | exact q_up hm c_82 | exact q_up hm c_84) (by first | exact q_upnn hv c_2 | exact q_upnn hv c_49 | exact q_upnn hv c_50 | exact q_upnn hv hv | exact q_upnn hv c_82 | exact q_upnn hv c_84) hP hD hS (lv_sub hl [0, 3, 4, 5] rfl) hF hs
            exact L47 (((39 : Int32).toInt - (0 : Int32).toInt).toNat + 1) r_this_one 0 0 _ _ _ (Nat.lt_succ_self _) (by decide) hP hD hS (lv_sub hl [0, 1, 2, 3] rfl) hF hs
        · skip
          rw [if_pos c_49] at hF
          rw [if_pos c_49] at hs
          refine lv_iinc (v := (x1_3 + ((-1) : Int32))) (lv' := [(1, .int (x1_3 + ((-1) : Int32))), (0, .ref a_this)]) hx hb dX8_settle_16 hl (k := 0) rfl rfl (by decide) rfl (fun ls hl => ?_)
          refine lv_goto (tgt := 3) hx hb dX8_settle_19 (by decide) ?_
          exact ih (x1_3 + ((-1) : Int32)) _ _ _ (by first | exact q_dn hm c_2 | exact q_dn hm c_49)  hP hD hS (lv_sub hl [0, 1] rfl) hF hs
  exact L3 (((39 : Int32).toInt + 1).toNat + 1) 39 _ _ _ (Nat.lt_succ_self _)  hP hD hS (lv_sub hl [0, 1] rfl) hF hs
theorem cv_X8_settle : qV yX8_settle cX8_settle 6 (some .int) 0 := ⟨kc_X8_settle, kt_X8_settle, ks_X8_settle, kn_X8, by decide, by decide +kernel⟩
def f_X8_store_L69 (r_this_one : Nat → Int32) (p1 : Int32) (p2 : Int32) (x3_5 : Bool) : Nat → (Nat → Int32) → Int32 → Nat → Int32
  | 0, r_this_bytes_L69, x4_69 => r_this_bytes_L69
  | fuel + 1, r_this_bytes_L69, x4_69 => (if ((2 : Int32) * p2) ≤ x4_69 then r_this_bytes_L69 else (if x4_69 = 0 then (if x3_5 = true then (if (x4_69 - x4_69 / (2 : Int32) * (2 : Int32)) = 0 then f_X8_store_L69 r_this_one p1 p2 x3_5 fuel (upd r_this_bytes_L69 (((p1 + p2) - (1 : Int32)) - (x4_69 / (2 : Int32))).toNatClampNeg ((r_this_bytes_L69 (((p1 + p2) - (1 : Int32)) - (x4_69 / (2 : Int32))).toNatClampNeg) + (13 : Int32))) (x4_69 + (1 : Int32)) else f_X8_store_L69 r_this_one p1 p2 x3_5 fuel (upd r_this_bytes_L69 (((p1 + p2) - (1 : Int32)) - (x4_69 / (2 : Int32))).toNatClampNeg ((r_this_bytes_L69 (((p1 + p2) - (1 : Int32)) - (x4_69 / (2 : Int32))).toNatClampNeg) + ((16 : Int32) * (13 : Int32)))) (x4_69 + (1 : Int32))) else (if (x4_69 - x4_69 / (2 : Int32) * (2 : Int32)) = 0 then f_X8_store_L69 r_this_one p1 p2 x3_5 fuel (upd r_this_bytes_L69 (((p1 + p2) - (1 : Int32)) - (x4_69 / (2 : Int32))).toNatClampNeg ((r_this_bytes_L69 (((p1 + p2) - (1 : Int32)) - (x4_69 / (2 : Int32))).toNatClampNeg) + (12 : Int32))) (x4_69 + (1 : Int32)) else f_X8_store_L69 r_this_one p1 p2 x3_5 fuel (upd r_this_bytes_L69 (((p1 + p2) - (1 : Int32)) - (x4_69 / (2 : Int32))).toNatClampNeg ((r_this_bytes_L69 (((p1 + p2) - (1 : Int32)) - (x4_69 / (2 : Int32))).toNatClampNeg) + ((16 : Int32) * (12 : Int32)))) (x4_69 + (1 : Int32)))) else (if 0 ≤ (r_this_one (x4_69 - (1 : Int32)).toNatClampNeg) then (if (x4_69 - x4_69 / (2 : Int32) * (2 : Int32)) = 0 then f_X8_store_L69 r_this_one p1 p2 x3_5 fuel (upd r_this_bytes_L69 (((p1 + p2) - (1 : Int32)) - (x4_69 / (2 : Int32))).toNatClampNeg ((r_this_bytes_L69 (((p1 + p2) - (1 : Int32)) - (x4_69 / (2 : Int32))).toNatClampNeg) + (r_this_one (x4_69 - (1 : Int32)).toNatClampNeg))) (x4_69 + (1 : Int32)) else f_X8_store_L69 r_this_one p1 p2 x3_5 fuel (upd r_this_bytes_L69 (((p1 + p2) - (1 : Int32)) - (x4_69 / (2 : Int32))).toNatClampNeg ((r_this_bytes_L69 (((p1 + p2) - (1 : Int32)) - (x4_69 / (2 : Int32))).toNatClampNeg) + ((16 : Int32) * (r_this_one (x4_69 - (1 : Int32)).toNatClampNeg)))) (x4_69 + (1 : Int32))) else (if (x4_69 - x4_69 / (2 : Int32) * (2 : Int32)) = 0 then f_X8_store_L69 r_this_one p1 p2 x3_5 fuel (upd r_this_bytes_L69 (((p1 + p2) - (1 : Int32)) - (x4_69 / (2 : Int32))).toNatClampNeg ((r_this_bytes_L69 (((p1 + p2) - (1 : Int32)) - (x4_69 / (2 : Int32))).toNatClampNeg) + (-(r_this_one (x4_69 - (1 : Int32)).toNatClampNeg)))) (x4_69 + (1 : Int32)) else f_X8_store_L69 r_this_one p1 p2 x3_5 fuel (upd r_this_bytes_L69 (((p1 + p2) - (1 : Int32)) - (x4_69 / (2 : Int32))).toNatClampNeg ((r_this_bytes_L69 (((p1 + p2) - (1 : Int32)) - (x4_69 / (2 : Int32))).toNatClampNeg) + ((16 : Int32) * (-(r_this_one (x4_69 - (1 : Int32)).toNatClampNeg))))) (x4_69 + (1 : Int32))))))
def s_X8_store_L69 (r_this_one : Nat → Int32) (p1 : Int32) (p2 : Int32) (x3_5 : Bool) : Nat → (Nat → Int32) → Int32 → Prop
  | 0, _, _ => True
  | fuel + 1, r_this_bytes_L69, x4_69 => (if ((2 : Int32) * p2) ≤ x4_69 then True else (if x4_69 = 0 then (if x3_5 = true then (vp_in (((p1 + p2) - (1 : Int32)) - (x4_69 / (2 : Int32))) 2048 ∧ (if (x4_69 - x4_69 / (2 : Int32) * (2 : Int32)) = 0 then (vp_in (((p1 + p2) - (1 : Int32)) - (x4_69 / (2 : Int32))) 2048 ∧ s_X8_store_L69 r_this_one p1 p2 x3_5 fuel (upd r_this_bytes_L69 (((p1 + p2) - (1 : Int32)) - (x4_69 / (2 : Int32))).toNatClampNeg ((r_this_bytes_L69 (((p1 + p2) - (1 : Int32)) - (x4_69 / (2 : Int32))).toNatClampNeg) + (13 : Int32))) (x4_69 + (1 : Int32))) else (vp_in (((p1 + p2) - (1 : Int32)) - (x4_69 / (2 : Int32))) 2048 ∧ s_X8_store_L69 r_this_one p1 p2 x3_5 fuel (upd r_this_bytes_L69 (((p1 + p2) - (1 : Int32)) - (x4_69 / (2 : Int32))).toNatClampNeg ((r_this_bytes_L69 (((p1 + p2) - (1 : Int32)) - (x4_69 / (2 : Int32))).toNatClampNeg) + ((16 : Int32) * (13 : Int32)))) (x4_69 + (1 : Int32))))) else (vp_in (((p1 + p2) - (1 : Int32)) - (x4_69 / (2 : Int32))) 2048 ∧ (if (x4_69 - x4_69 / (2 : Int32) * (2 : Int32)) = 0 then (vp_in (((p1 + p2) - (1 : Int32)) - (x4_69 / (2 : Int32))) 2048 ∧ s_X8_store_L69 r_this_one p1 p2 x3_5 fuel (upd r_this_bytes_L69 (((p1 + p2) - (1 : Int32)) - (x4_69 / (2 : Int32))).toNatClampNeg ((r_this_bytes_L69 (((p1 + p2) - (1 : Int32)) - (x4_69 / (2 : Int32))).toNatClampNeg) + (12 : Int32))) (x4_69 + (1 : Int32))) else (vp_in (((p1 + p2) - (1 : Int32)) - (x4_69 / (2 : Int32))) 2048 ∧ s_X8_store_L69 r_this_one p1 p2 x3_5 fuel (upd r_this_bytes_L69 (((p1 + p2) - (1 : Int32)) - (x4_69 / (2 : Int32))).toNatClampNeg ((r_this_bytes_L69 (((p1 + p2) - (1 : Int32)) - (x4_69 / (2 : Int32))).toNatClampNeg) + ((16 : Int32) * (12 : Int32)))) (x4_69 + (1 : Int32)))))) else (vp_in (x4_69 - (1 : Int32)) 40 ∧ (if 0 ≤ (r_this_one (x4_69 - (1 : Int32)).toNatClampNeg) then (vp_in (x4_69 - (1 : Int32)) 40 ∧ (vp_in (((p1 + p2) - (1 : Int32)) - (x4_69 / (2 : Int32))) 2048 ∧ (if (x4_69 - x4_69 / (2 : Int32) * (2 : Int32)) = 0 then (vp_in (((p1 + p2) - (1 : Int32)) - (x4_69 / (2 : Int32))) 2048 ∧ s_X8_store_L69 r_this_one p1 p2 x3_5 fuel (upd r_this_bytes_L69 (((p1 + p2) - (1 : Int32)) - (x4_69 / (2 : Int32))).toNatClampNeg ((r_this_bytes_L69 (((p1 + p2) - (1 : Int32)) - (x4_69 / (2 : Int32))).toNatClampNeg) + (r_this_one (x4_69 - (1 : Int32)).toNatClampNeg))) (x4_69 + (1 : Int32))) else (vp_in (((p1 + p2) - (1 : Int32)) - (x4_69 / (2 : Int32))) 2048 ∧ s_X8_store_L69 r_this_one p1 p2 x3_5 fuel (upd r_this_bytes_L69 (((p1 + p2) - (1 : Int32)) - (x4_69 / (2 : Int32))).toNatClampNeg ((r_this_bytes_L69 (((p1 + p2) - (1 : Int32)) - (x4_69 / (2 : Int32))).toNatClampNeg) + ((16 : Int32) * (r_this_one (x4_69 - (1 : Int32)).toNatClampNeg)))) (x4_69 + (1 : Int32)))))) else (vp_in (x4_69 - (1 : Int32)) 40 ∧ (vp_in (((p1 + p2) - (1 : Int32)) - (x4_69 / (2 : Int32))) 2048 ∧ (if (x4_69 - x4_69 / (2 : Int32) * (2 : Int32)) = 0 then (vp_in (((p1 + p2) - (1 : Int32)) - (x4_69 / (2 : Int32))) 2048 ∧ s_X8_store_L69 r_this_one p1 p2 x3_5 fuel (upd r_this_bytes_L69 (((p1 + p2) - (1 : Int32)) - (x4_69 / (2 : Int32))).toNatClampNeg ((r_this_bytes_L69 (((p1 + p2) - (1 : Int32)) - (x4_69 / (2 : Int32))).toNatClampNeg) + (-(r_this_one (x4_69 - (1 : Int32)).toNatClampNeg)))) (x4_69 + (1 : Int32))) else (vp_in (((p1 + p2) - (1 : Int32)) - (x4_69 / (2 : Int32))) 2048 ∧ s_X8_store_L69 r_this_one p1 p2 x3_5 fuel (upd r_this_bytes_L69 (((p1 + p2) - (1 : Int32)) - (x4_69 / (2 : Int32))).toNatClampNeg ((r_this_bytes_L69 (((p1 + p2) - (1 : Int32)) - (x4_69 / (2 : Int32))).toNatClampNeg) + ((16 : Int32) * (-(r_this_one (x4_69 - (1 : Int32)).toNatClampNeg))))) (x4_69 + (1 : Int32))))))))))
def f_X8_store_L44 (r_this_one : Nat → Int32) (p1 : Int32) (p2 : Int32) (x3_5 : Bool) : Nat → (Nat → Int32) → Int32 → Nat → Int32
  | 0, r_this_bytes_L44, x4_44 => r_this_bytes_L44
  | fuel + 1, r_this_bytes_L44, x4_44 => (if p2 ≤ x4_44 then f_X8_store_L69 r_this_one p1 p2 x3_5 ((((2 : Int32) * p2 : Int32).toInt - (0 : Int32).toInt).toNat + 1) r_this_bytes_L44 0 else f_X8_store_L44 r_this_one p1 p2 x3_5 fuel (upd r_this_bytes_L44 (p1 + x4_44).toNatClampNeg 0) (x4_44 + (1 : Int32)))
def s_X8_store_L44 (r_this_one : Nat → Int32) (p1 : Int32) (p2 : Int32) (x3_5 : Bool) : Nat → (Nat → Int32) → Int32 → Prop
  | 0, _, _ => True
  | fuel + 1, r_this_bytes_L44, x4_44 => (if p2 ≤ x4_44 then s_X8_store_L69 r_this_one p1 p2 x3_5 ((((2 : Int32) * p2 : Int32).toInt - (0 : Int32).toInt).toNat + 1) r_this_bytes_L44 0 else (vp_in (p1 + x4_44) 2048 ∧ s_X8_store_L44 r_this_one p1 p2 x3_5 fuel (upd r_this_bytes_L44 (p1 + x4_44).toNatClampNeg 0) (x4_44 + (1 : Int32))))
def f_X8_store_L5 (r_this_bytes : Nat → Int32) (r_this_one : Nat → Int32) (p1 : Int32) (p2 : Int32) : Nat → Int32 → Bool → Nat → Int32
  | 0, x4_5, x3_5 => r_this_bytes
  | fuel + 1, x4_5, x3_5 => (if (((2 : Int32) * p2) - (1 : Int32)) ≤ x4_5 then f_X8_store_L44 r_this_one p1 p2 x3_5 (((p2 : Int32).toInt - (0 : Int32).toInt).toNat + 1) r_this_bytes 0 else (if x3_5 = true then f_X8_store_L5 r_this_bytes r_this_one p1 p2 fuel (x4_5 + (1 : Int32)) true else (if 0 ≤ (r_this_one x4_5.toNatClampNeg) then f_X8_store_L5 r_this_bytes r_this_one p1 p2 fuel (x4_5 + (1 : Int32)) false else f_X8_store_L5 r_this_bytes r_this_one p1 p2 fuel (x4_5 + (1 : Int32)) true)))
def s_X8_store_L5 (r_this_bytes : Nat → Int32) (r_this_one : Nat → Int32) (p1 : Int32) (p2 : Int32) : Nat → Int32 → Bool → Prop
  | 0, _, _ => True
  | fuel + 1, x4_5, x3_5 => (if (((2 : Int32) * p2) - (1 : Int32)) ≤ x4_5 then s_X8_store_L44 r_this_one p1 p2 x3_5 (((p2 : Int32).toInt - (0 : Int32).toInt).toNat + 1) r_this_bytes 0 else (if x3_5 = true then s_X8_store_L5 r_this_bytes r_this_one p1 p2 fuel (x4_5 + (1 : Int32)) true else (vp_in x4_5 40 ∧ (if 0 ≤ (r_this_one x4_5.toNatClampNeg) then s_X8_store_L5 r_this_bytes r_this_one p1 p2 fuel (x4_5 + (1 : Int32)) false else s_X8_store_L5 r_this_bytes r_this_one p1 p2 fuel (x4_5 + (1 : Int32)) true))))
def f_X8_store (r_this_bytes : Nat → Int32) (r_this_one : Nat → Int32) (p1 : Int32) (p2 : Int32) : Nat → Int32 := f_X8_store_L5 r_this_bytes r_this_one p1 p2 (((((2 : Int32) * p2) - (1 : Int32) : Int32).toInt - (0 : Int32).toInt).toNat + 1) 0 false
def s_X8_store (r_this_bytes : Nat → Int32) (r_this_one : Nat → Int32) (p1 : Int32) (p2 : Int32) : Prop := s_X8_store_L5 r_this_bytes r_this_one p1 p2 (((((2 : Int32) * p2) - (1 : Int32) : Int32).toInt - (0 : Int32).toInt).toNat + 1) 0 false
set_option linter.all false in
set_option maxHeartbeats 4000000 in
set_option maxRecDepth 100000 in
theorem c_X8_store (l : Launch) (D : va_G) (a_this a_this_bytes a_this_one a_this_keys a_this_reg a_this_card a_this_filled a_this_taken a_this_line a_this_two : Nat) (k_this_bytes k_this_one : ClassId) (o_this : Int32 × Int32 × Int32 × Int32 × Bool × Bool × Int32 × Int32 × Int32 × Int32 × Bool × Bool × Bool × Int32 × Int32 × Int32 × Int32 × Int32 × Int32 × Int32 × Int32 × Int32 × Int32 × Int32 × Int32) (r_this_bytes : Nat → Int32) (r_this_one : Nat → Int32) (p1 : Int32) (p2 : Int32) (hs : s_X8_store r_this_bytes r_this_one p1 p2) : CtV l yX8_store cX8_store 6 none { frames := 0, cells := 0, slots := 0, locals := 0 } D [.ref a_this, .int p1, .int p2] [(a_this, oX8 a_this_bytes a_this_keys a_this_reg a_this_card a_this_filled a_this_taken a_this_line a_this_one a_this_two o_this), (a_this_bytes, .inl (k_this_bytes, 2048, .inl r_this_bytes)), (a_this_one, .inl (k_this_one, 40, .inl r_this_one))] [(k_this_bytes, .int), (k_this_one, .int)] (fun (u : Nat → Int32) => f_X8_store r_this_bytes r_this_one p1 p2 = u) (fun u => [(a_this, oX8 a_this_bytes a_this_keys a_this_reg a_this_card a_this_filled a_this_taken a_this_line a_this_one a_this_two o_this), (a_this_bytes, .inl (k_this_bytes, 2048, .inl u)), (a_this_one, .inl (k_this_one, 40, .inl r_this_one))]) := by
  refine CtV.of (by decide) (Nat.le_of_ble_eq_true rfl) ?_
  intro p e s m below meth c A ls Q hE hP hD hS hl hQ
  obtain ⟨hx, hb, hml, hown, ht, hN, hK, hA⟩ := hE
  have hown : s.vm.findClass RX8 = some m.cls := hown
  have hl : lv_has ls 6 [(0, .ref a_this), (1, .int p1), (2, .int p2)] := hl
  obtain ⟨F, hF⟩ : ∃ F, f_X8_store r_this_bytes r_this_one p1 p2 = F := ⟨_, rfl⟩
  rw [hF] at hQ
  unfold f_X8_store at hF
  unfold s_X8_store at hs
  refine lv_iconst (v := 0) hx hb dX8_store_0 (by decide) ?_
  refine lv_istore_n (lv' := [(3, .int 0), (0, .ref a_this), (1, .int p1), (2, .int p2)]) hx hb dX8_store_1 rfl hl (by decide) rfl (fun ls hl => ?_)
  refine lv_iconst (v := 0) hx hb dX8_store_2 (by decide) ?_
  refine lv_istore (lv' := [(4, .int 0), (3, .int 0), (0, .ref a_this), (1, .int p1), (2, .int p2)]) hx hb dX8_store_3 hl (by decide) rfl (fun ls hl => ?_)
  have L5 : ∀ (fuel : Nat) (x4_5 : Int32) (x3_5 : Bool) (H : Heap) (locs : List Loc) (ls : Array Slot), ((((2 : Int32) * p2) - (1 : Int32) : Int32).toInt - (x4_5 : Int32).toInt).toNat < fuel → va_P D vwCl [(a_this, oX8 a_this_bytes a_this_keys a_this_reg a_this_card a_this_filled a_this_taken a_this_line a_this_one a_this_two o_this), (a_this_bytes, .inl (k_this_bytes, 2048, .inl r_this_bytes)), (a_this_one, .inl (k_this_one, 40, .inl r_this_one))] H → va_D A [(a_this, oX8 a_this_bytes a_this_keys a_this_reg a_this_card a_this_filled a_this_taken a_this_line a_this_one a_this_two o_this), (a_this_bytes, .inl (k_this_bytes, 2048, .inl r_this_bytes)), (a_this_one, .inl (k_this_one, 40, .inl r_this_one))] → va_S A s.heap H locs → lv_has ls 6 [(4, .int x4_5), (3, .int (bI x3_5)), (0, .ref a_this), (1, .int p1), (2, .int p2)] → f_X8_store_L5 r_this_bytes r_this_one p1 p2 fuel x4_5 x3_5 = F → s_X8_store_L5 r_this_bytes r_this_one p1 p2 fuel x4_5 x3_5 → W p l e ({ frames := 0, cells := 0, slots := 0, locals := 0 } : Room) s m ([.ref a_this, .int p1, .int p2] : List Value).toArray below meth c H locs 0 0 Q (F0 m 5 ls []) := by
    intro fuel
    induction fuel with
    | zero => intro x4_5 x3_5 H locs ls hm; exact absurd hm (Nat.not_lt_zero _)
    | succ fuel ih =>
      intro x4_5 x3_5 H locs ls hm  hP hD hS hl hF hs
      rw [f_X8_store_L5] at hF
      rw [s_X8_store_L5] at hs
      skip
      refine lv_iload hx hb dX8_store_5 (lv_at hl 0 rfl) ?_
      refine lv_iconst (v := 2) hx hb dX8_store_7 (by decide) ?_
      refine lv_iload_n hx hb dX8_store_8 rfl (lv_at hl 4 rfl) ?_
      refine lv_imul hx hb dX8_store_9 ?_
      refine lv_iconst (v := 1) hx hb dX8_store_10 (by decide) ?_
      refine lv_isub hx hb dX8_store_11 ?_
      refine lv_icmp_ge (tgt := 41) hx hb dX8_store_12 (by decide) (fun c_2 => ?_) (fun c_2 => ?_)
      · skip
        rw [if_pos c_2] at hF
        rw [if_pos c_2] at hs
        refine lv_iconst (v := 0) hx hb dX8_store_41 (by decide) ?_
        refine lv_istore (lv' := [(4, .int 0), (3, .int (bI x3_5)), (0, .ref a_this), (1, .int p1), (2, .int p2)]) hx hb dX8_store_42 hl (by decide) rfl (fun ls hl => ?_)
        have L44 : ∀ (fuel : Nat) (r_this_bytes_L44 : Nat → Int32) (x4_44 : Int32) (H : Heap) (locs : List Loc) (ls : Array Slot), ((p2 : Int32).toInt - (x4_44 : Int32).toInt).toNat < fuel → va_P D vwCl [(a_this, oX8 a_this_bytes a_this_keys a_this_reg a_this_card a_this_filled a_this_taken a_this_line a_this_one a_this_two o_this), (a_this_bytes, .inl (k_this_bytes, 2048, .inl r_this_bytes_L44)), (a_this_one, .inl (k_this_one, 40, .inl r_this_one))] H → va_D A [(a_this, oX8 a_this_bytes a_this_keys a_this_reg a_this_card a_this_filled a_this_taken a_this_line a_this_one a_this_two o_this), (a_this_bytes, .inl (k_this_bytes, 2048, .inl r_this_bytes_L44)), (a_this_one, .inl (k_this_one, 40, .inl r_this_one))] → va_S A s.heap H locs → lv_has ls 6 [(4, .int x4_44), (3, .int (bI x3_5)), (0, .ref a_this), (1, .int p1), (2, .int p2)] → f_X8_store_L44 r_this_one p1 p2 x3_5 fuel r_this_bytes_L44 x4_44 = F → s_X8_store_L44 r_this_one p1 p2 x3_5 fuel r_this_bytes_L44 x4_44 → W p l e ({ frames := 0, cells := 0, slots := 0, locals := 0 } : Room) s m ([.ref a_this, .int p1, .int p2] : List Value).toArray below meth c H locs 0 0 Q (F0 m 44 ls []) := by
          intro fuel
          induction fuel with
          | zero => intro r_this_bytes_L44 x4_44 H locs ls hm; exact absurd hm (Nat.not_lt_zero _)
          | succ fuel ih =>
            intro r_this_bytes_L44 x4_44 H locs ls hm  hP hD hS hl hF hs
            rw [f_X8_store_L44] at hF
            rw [s_X8_store_L44] at hs
            skip
            refine lv_iload hx hb dX8_store_44 (lv_at hl 0 rfl) ?_
            refine lv_iload_n hx hb dX8_store_46 rfl (lv_at hl 4 rfl) ?_
            refine lv_icmp_ge (tgt := 66) hx hb dX8_store_47 (by decide) (fun c_4 => ?_) (fun c_4 => ?_)
            · skip
              rw [if_pos c_4] at hF
              rw [if_pos c_4] at hs
              refine lv_iconst (v := 0) hx hb dX8_store_66 (by decide) ?_
              refine lv_istore (lv' := [(4, .int 0), (3, .int (bI x3_5)), (0, .ref a_this), (1, .int p1), (2, .int p2)]) hx hb dX8_store_67 hl (by decide) rfl (fun ls hl => ?_)
              have L69 : ∀ (fuel : Nat) (r_this_bytes_L69 : Nat → Int32) (x4_69 : Int32) (H : Heap) (locs : List Loc) (ls : Array Slot), (((2 : Int32) * p2 : Int32).toInt - (x4_69 : Int32).toInt).toNat < fuel → va_P D vwCl [(a_this, oX8 a_this_bytes a_this_keys a_this_reg a_this_card a_this_filled a_this_taken a_this_line a_this_one a_this_two o_this), (a_this_bytes, .inl (k_this_bytes, 2048, .inl r_this_bytes_L69)), (a_this_one, .inl (k_this_one, 40, .inl r_this_one))] H → va_D A [(a_this, oX8 a_this_bytes a_this_keys a_this_reg a_this_card a_this_filled a_this_taken a_this_line a_this_one a_this_two o_this), (a_this_bytes, .inl (k_this_bytes, 2048, .inl r_this_bytes_L69)), (a_this_one, .inl (k_this_one, 40, .inl r_this_one))] → va_S A s.heap H locs → lv_has ls 6 [(4, .int x4_69), (3, .int (bI x3_5)), (0, .ref a_this), (1, .int p1), (2, .int p2)] → f_X8_store_L69 r_this_one p1 p2 x3_5 fuel r_this_bytes_L69 x4_69 = F → s_X8_store_L69 r_this_one p1 p2 x3_5 fuel r_this_bytes_L69 x4_69 → W p l e ({ frames := 0, cells := 0, slots := 0, locals := 0 } : Room) s m ([.ref a_this, .int p1, .int p2] : List Value).toArray below meth c H locs 0 0 Q (F0 m 69 ls []) := by
                intro fuel
                induction fuel with
                | zero => intro r_this_bytes_L69 x4_69 H locs ls hm; exact absurd hm (Nat.not_lt_zero _)
                | succ fuel ih =>
                  intro r_this_bytes_L69 x4_69 H locs ls hm  hP hD hS hl hF hs
                  rw [f_X8_store_L69] at hF
                  rw [s_X8_store_L69] at hs
                  skip
                  refine lv_iload hx hb dX8_store_69 (lv_at hl 0 rfl) ?_
                  refine lv_iconst (v := 2) hx hb dX8_store_71 (by decide) ?_
                  refine lv_iload_n hx hb dX8_store_72 rfl (lv_at hl 4 rfl) ?_
                  refine lv_imul hx hb dX8_store_73 ?_
                  refine lv_icmp_ge (tgt := 173) hx hb dX8_store_74 (by decide) (fun c_6 => ?_) (fun c_6 => ?_)
                  · skip
                    rw [if_pos c_6] at hF
                    rw [if_pos c_6] at hs
                    exact hQ r_this_bytes_L69 _ _ _ _ dX8_store_173 hF.symm hP hD hS
                  · skip
                    rw [if_neg c_6] at hF
                    rw [if_neg c_6] at hs
                    refine lv_iload hx hb dX8_store_77 (lv_at hl 0 rfl) ?_
                    refine lv_if_ne (tgt := 96) hx hb dX8_store_79 (by decide) (fun c_7 => ?_) (fun c_7 => ?_)
                    · skip
                      rw [if_neg c_7] at hF
                      rw [if_neg c_7] at hs
                      refine lv_aload_n hx hb dX8_store_96 rfl (lv_at hl 2 rfl) ?_
                      refine gf_X8_31 (v := .ref a_this_one) hx hb hown ht hK hP 0 rfl rfl dX8_store_97 ?_
                      refine lv_iload hx hb dX8_store_100 (lv_at hl 0 rfl) ?_
                      refine lv_iconst (v := 1) hx hb dX8_store_102 (by decide) ?_
                      refine lv_isub hx hb dX8_store_103 ?_
                      obtain ⟨hi_8, hs⟩ := hs
                      refine va_iald hx hb hK hP 2 1 rfl rfl hi_8 dX8_store_104 ?_
                      refine lv_if_ge (tgt := 121) hx hb dX8_store_105 (by decide) (fun c_9 => ?_) (fun c_9 => ?_)
                      · skip
                        rw [if_pos c_9] at hF
                        rw [if_pos c_9] at hs
                        refine lv_aload_n hx hb dX8_store_121 rfl (lv_at hl 2 rfl) ?_
                        refine gf_X8_31 (v := .ref a_this_one) hx hb hown ht hK hP 0 rfl rfl dX8_store_122 ?_
                        refine lv_iload hx hb dX8_store_125 (lv_at hl 0 rfl) ?_
                        refine lv_iconst (v := 1) hx hb dX8_store_127 (by decide) ?_
                        refine lv_isub hx hb dX8_store_128 ?_
                        obtain ⟨hi_10, hs⟩ := hs
                        refine va_iald hx hb hK hP 2 1 rfl rfl hi_10 dX8_store_129 ?_
                        refine lv_istore (lv' := [(5, .int (r_this_one (x4_69 - (1 : Int32)).toNatClampNeg)), (4, .int x4_69), (3, .int (bI x3_5)), (0, .ref a_this), (1, .int p1), (2, .int p2)]) hx hb dX8_store_130 hl (by decide) rfl (fun ls hl => ?_)
                        refine lv_aload_n hx hb dX8_store_132 rfl (lv_at hl 3 rfl) ?_
                        refine gf_X8_7 (v := .ref a_this_bytes) hx hb hown ht hK hP 0 rfl rfl dX8_store_133 ?_
                        refine lv_iload_n hx hb dX8_store_136 rfl (lv_at hl 4 rfl) ?_
                        refine lv_iload_n hx hb dX8_store_137 rfl (lv_at hl 5 rfl) ?_
                        refine lv_iadd hx hb dX8_store_138 ?_
                        refine lv_iconst (v := 1) hx hb dX8_store_139 (by decide) ?_
                        refine lv_isub hx hb dX8_store_140 ?_
                        refine lv_iload hx hb dX8_store_141 (lv_at hl 1 rfl) ?_
                        refine lv_iconst (v := 2) hx hb dX8_store_143 (by decide) ?_
                        refine lv_idiv hx hb dX8_store_144 (by decide) ?_
                        refine lv_isub hx hb dX8_store_145 ?_
                        refine lv_dup2_11 hx hb dX8_store_146 rfl rfl ?_
                        obtain ⟨hi_11, hs⟩ := hs
                        refine va_iald hx hb hK hP 1 0 rfl rfl hi_11 dX8_store_147 ?_
                        refine lv_iload hx hb dX8_store_148 (lv_at hl 1 rfl) ?_
                        refine lv_iconst (v := 2) hx hb dX8_store_150 (by decide) ?_
                        refine lv_irem hx hb dX8_store_151 (by decide) ?_
                        refine lv_if_ne (tgt := 160) hx hb dX8_store_152 (by decide) (fun c_12 => ?_) (fun c_12 => ?_)
                        · skip
                          rw [if_neg c_12] at hF
                          rw [if_neg c_12] at hs
                          refine lv_bipush (v := 16) hx hb dX8_store_160 (by decide) ?_
                          refine lv_iload hx hb dX8_store_162 (lv_at hl 0 rfl) ?_
                          refine lv_imul hx hb dX8_store_164 ?_
                          refine lv_iadd hx hb dX8_store_165 ?_
                          obtain ⟨hi_13, hs⟩ := hs
                          refine va_iast hx hb hK hP hD hS 1 0 rfl rfl hi_13 dX8_store_166 (fun H locs hP hD hS => ?_)
                          have hP : va_P D vwCl [(a_this, oX8 a_this_bytes a_this_keys a_this_reg a_this_card a_this_filled a_this_taken a_this_line a_this_one a_this_two o_this), (a_this_bytes, .inl (k_this_bytes, 2048, .inl (upd r_this_bytes_L69 (((p1 + p2) - (1 : Int32)) - (x4_69 / (2 : Int32))).toNatClampNeg ((r_this_bytes_L69 (((p1 + p2) - (1 : Int32)) - (x4_69 / (2 : Int32))).toNatClampNeg) + ((16 : Int32) * (r_this_one (x4_69 - (1 : Int32)).toNatClampNeg)))))), (a_this_one, .inl (k_this_one, 40, .inl r_this_one))] H := hP
                          have hD : va_D A [(a_this, oX8 a_this_bytes a_this_keys a_this_reg a_this_card a_this_filled a_this_taken a_this_line a_this_one a_this_two o_this), (a_this_bytes, .inl (k_this_bytes, 2048, .inl (upd r_this_bytes_L69 (((p1 + p2) - (1 : Int32)) - (x4_69 / (2 : Int32))).toNatClampNeg ((r_this_bytes_L69 (((p1 + p2) - (1 : Int32)) - (x4_69 / (2 : Int32))).toNatClampNeg) + ((16 : Int32) * (r_this_one (x4_69 - (1 : Int32)).toNatClampNeg)))))), (a_this_one, .inl (k_this_one, 40, .inl r_this_one))] := hD
                          refine lv_iinc (v := (x4_69 + (1 : Int32))) (lv' := [(4, .int (x4_69 + (1 : Int32))), (5, .int (r_this_one (x4_69 - (1 : Int32)).toNatClampNeg)), (3, .int (bI x3_5)), (0, .ref a_this), (1, .int p1), (2, .int p2)]) hx hb dX8_store_167 hl (k := 1) rfl rfl (by decide) rfl (fun ls hl => ?_)
                          refine lv_goto (tgt := 69) hx hb dX8_store_170 (by decide) ?_
                          exact ih (upd r_this_bytes_L69 (((p1 + p2) - (1 : Int32)) - (x4_69 / (2 : Int32))).toNatClampNeg ((r_this_bytes_L69 (((p1 + p2) - (1 : Int32)) - (x4_69 / (2 : Int32))).toNatClampNeg) + ((16 : Int32) * (r_this_one (x4_69 - (1 : Int32)).toNatClampNeg)))) (x4_69 + (1 : Int32)) _ _ _ (by first | exact q_up hm c_2 | exact q_up hm c_4 | exact q_up hm c_6 | exact q_up hm c_7 | exact q_up hm c_9 | exact q_up hm c_12)  hP hD hS (lv_sub hl [0, 2, 3, 4, 5] rfl) hF hs
                        · skip
                          rw [if_pos c_12] at hF
                          rw [if_pos c_12] at hs
                          refine lv_iload hx hb dX8_store_155 (lv_at hl 0 rfl) ?_
                          refine lv_goto (tgt := 165) hx hb dX8_store_157 (by decide) ?_
                          refine lv_iadd hx hb dX8_store_165 ?_
                          obtain ⟨hi_14, hs⟩ := hs
                          refine va_iast hx hb hK hP hD hS 1 0 rfl rfl hi_14 dX8_store_166 (fun H locs hP hD hS => ?_)
                          have hP : va_P D vwCl [(a_this, oX8 a_this_bytes a_this_keys a_this_reg a_this_card a_this_filled a_this_taken a_this_line a_this_one a_this_two o_this), (a_this_bytes, .inl (k_this_bytes, 2048, .inl (upd r_this_bytes_L69 (((p1 + p2) - (1 : Int32)) - (x4_69 / (2 : Int32))).toNatClampNeg ((r_this_bytes_L69 (((p1 + p2) - (1 : Int32)) - (x4_69 / (2 : Int32))).toNatClampNeg) + (r_this_one (x4_69 - (1 : Int32)).toNatClampNeg))))), (a_this_one, .inl (k_this_one, 40, .inl r_this_one))] H := hP
                          have hD : va_D A [(a_this, oX8 a_this_bytes a_this_keys a_this_reg a_this_card a_this_filled a_this_taken a_this_line a_this_one a_this_two o_this), (a_this_bytes, .inl (k_this_bytes, 2048, .inl (upd r_this_bytes_L69 (((p1 + p2) - (1 : Int32)) - (x4_69 / (2 : Int32))).toNatClampNeg ((r_this_bytes_L69 (((p1 + p2) - (1 : Int32)) - (x4_69 / (2 : Int32))).toNatClampNeg) + (r_this_one (x4_69 - (1 : Int32)).toNatClampNeg))))), (a_this_one, .inl (k_this_one, 40, .inl r_this_one))] := hD
                          refine lv_iinc (v := (x4_69 + (1 : Int32))) (lv' := [(4, .int (x4_69 + (1 : Int32))), (5, .int (r_this_one (x4_69 - (1 : Int32)).toNatClampNeg)), (3, .int (bI x3_5)), (0, .ref a_this), (1, .int p1), (2, .int p2)]) hx hb dX8_store_167 hl (k := 1) rfl rfl (by decide) rfl (fun ls hl => ?_)
                          refine lv_goto (tgt := 69) hx hb dX8_store_170 (by decide) ?_
                          exact ih (upd r_this_bytes_L69 (((p1 + p2) - (1 : Int32)) - (x4_69 / (2 : Int32))).toNatClampNeg ((r_this_bytes_L69 (((p1 + p2) - (1 : Int32)) - (x4_69 / (2 : Int32))).toNatClampNeg) + (r_this_one (x4_69 - (1 : Int32)).toNatClampNeg))) (x4_69 + (1 : Int32)) _ _ _ (by first | exact q_up hm c_2 | exact q_up hm c_4 | exact q_up hm c_6 | exact q_up hm c_7 | exact q_up hm c_9 | exact q_up hm c_12)  hP hD hS (lv_sub hl [0, 2, 3, 4, 5] rfl) hF hs
                      · skip
                        rw [if_neg c_9] at hF
                        rw [if_neg c_9] at hs
                        refine lv_aload_n hx hb dX8_store_108 rfl (lv_at hl 2 rfl) ?_
                        refine gf_X8_31 (v := .ref a_this_one) hx hb hown ht hK hP 0 rfl rfl dX8_store_109 ?_
                        refine lv_iload hx hb dX8_store_112 (lv_at hl 0 rfl) ?_
                        refine lv_iconst (v := 1) hx hb dX8_store_114 (by decide) ?_
                        refine lv_isub hx hb dX8_store_115 ?_
                        obtain ⟨hi_15, hs⟩ := hs
                        refine va_iald hx hb hK hP 2 1 rfl rfl hi_15 dX8_store_116 ?_
                        refine lv_ineg hx hb dX8_store_117 ?_
                        refine lv_goto (tgt := 130) hx hb dX8_store_118 (by decide) ?_
                        refine lv_istore (lv' := [(5, .int (-(r_this_one (x4_69 - (1 : Int32)).toNatClampNeg))), (4, .int x4_69), (3, .int (bI x3_5)), (0, .ref a_this), (1, .int p1), (2, .int p2)]) hx hb dX8_store_130 hl (by decide) rfl (fun ls hl => ?_)
                        refine lv_aload_n hx hb dX8_store_132 rfl (lv_at hl 3 rfl) ?_
                        refine gf_X8_7 (v := .ref a_this_bytes) hx hb hown ht hK hP 0 rfl rfl dX8_store_133 ?_
                        refine lv_iload_n hx hb dX8_store_136 rfl (lv_at hl 4 rfl) ?_
                        refine lv_iload_n hx hb dX8_store_137 rfl (lv_at hl 5 rfl) ?_
                        refine lv_iadd hx hb dX8_store_138 ?_
                        refine lv_iconst (v := 1) hx hb dX8_store_139 (by decide) ?_
                        refine lv_isub hx hb dX8_store_140 ?_
                        refine lv_iload hx hb dX8_store_141 (lv_at hl 1 rfl) ?_
                        refine lv_iconst (v := 2) hx hb dX8_store_143 (by decide) ?_
                        refine lv_idiv hx hb dX8_store_144 (by decide) ?_
                        refine lv_isub hx hb dX8_store_145 ?_
                        refine lv_dup2_11 hx hb dX8_store_146 rfl rfl ?_
                        obtain ⟨hi_16, hs⟩ := hs
                        refine va_iald hx hb hK hP 1 0 rfl rfl hi_16 dX8_store_147 ?_
                        refine lv_iload hx hb dX8_store_148 (lv_at hl 1 rfl) ?_
                        refine lv_iconst (v := 2) hx hb dX8_store_150 (by decide) ?_
                        refine lv_irem hx hb dX8_store_151 (by decide) ?_
                        refine lv_if_ne (tgt := 160) hx hb dX8_store_152 (by decide) (fun c_17 => ?_) (fun c_17 => ?_)
                        · skip
                          rw [if_neg c_17] at hF
                          rw [if_neg c_17] at hs
                          refine lv_bipush (v := 16) hx hb dX8_store_160 (by decide) ?_
                          refine lv_iload hx hb dX8_store_162 (lv_at hl 0 rfl) ?_
                          refine lv_imul hx hb dX8_store_164 ?_
                          refine lv_iadd hx hb dX8_store_165 ?_
                          obtain ⟨hi_18, hs⟩ := hs
                          refine va_iast hx hb hK hP hD hS 1 0 rfl rfl hi_18 dX8_store_166 (fun H locs hP hD hS => ?_)
                          have hP : va_P D vwCl [(a_this, oX8 a_this_bytes a_this_keys a_this_reg a_this_card a_this_filled a_this_taken a_this_line a_this_one a_this_two o_this), (a_this_bytes, .inl (k_this_bytes, 2048, .inl (upd r_this_bytes_L69 (((p1 + p2) - (1 : Int32)) - (x4_69 / (2 : Int32))).toNatClampNeg ((r_this_bytes_L69 (((p1 + p2) - (1 : Int32)) - (x4_69 / (2 : Int32))).toNatClampNeg) + ((16 : Int32) * (-(r_this_one (x4_69 - (1 : Int32)).toNatClampNeg))))))), (a_this_one, .inl (k_this_one, 40, .inl r_this_one))] H := hP
                          have hD : va_D A [(a_this, oX8 a_this_bytes a_this_keys a_this_reg a_this_card a_this_filled a_this_taken a_this_line a_this_one a_this_two o_this), (a_this_bytes, .inl (k_this_bytes, 2048, .inl (upd r_this_bytes_L69 (((p1 + p2) - (1 : Int32)) - (x4_69 / (2 : Int32))).toNatClampNeg ((r_this_bytes_L69 (((p1 + p2) - (1 : Int32)) - (x4_69 / (2 : Int32))).toNatClampNeg) + ((16 : Int32) * (-(r_this_one (x4_69 - (1 : Int32)).toNatClampNeg))))))), (a_this_one, .inl (k_this_one, 40, .inl r_this_one))] := hD
                          refine lv_iinc (v := (x4_69 + (1 : Int32))) (lv' := [(4, .int (x4_69 + (1 : Int32))), (5, .int (-(r_this_one (x4_69 - (1 : Int32)).toNatClampNeg))), (3, .int (bI x3_5)), (0, .ref a_this), (1, .int p1), (2, .int p2)]) hx hb dX8_store_167 hl (k := 1) rfl rfl (by decide) rfl (fun ls hl => ?_)
                          refine lv_goto (tgt := 69) hx hb dX8_store_170 (by decide) ?_
                          exact ih (upd r_this_bytes_L69 (((p1 + p2) - (1 : Int32)) - (x4_69 / (2 : Int32))).toNatClampNeg ((r_this_bytes_L69 (((p1 + p2) - (1 : Int32)) - (x4_69 / (2 : Int32))).toNatClampNeg) + ((16 : Int32) * (-(r_this_one (x4_69 - (1 : Int32)).toNatClampNeg))))) (x4_69 + (1 : Int32)) _ _ _ (by first | exact q_up hm c_2 | exact q_up hm c_4 | exact q_up hm c_6 | exact q_up hm c_7 | exact q_up hm c_9 | exact q_up hm c_17)  hP hD hS (lv_sub hl [0, 2, 3, 4, 5] rfl) hF hs
                        · skip
                          rw [if_pos c_17] at hF
                          rw [if_pos c_17] at hs
                          refine lv_iload hx hb dX8_store_155 (lv_at hl 0 rfl) ?_
                          refine lv_goto (tgt := 165) hx hb dX8_store_157 (by decide) ?_
                          refine lv_iadd hx hb dX8_store_165 ?_
                          obtain ⟨hi_19, hs⟩ := hs
                          refine va_iast hx hb hK hP hD hS 1 0 rfl rfl hi_19 dX8_store_166 (fun H locs hP hD hS => ?_)
                          have hP : va_P D vwCl [(a_this, oX8 a_this_bytes a_this_keys a_this_reg a_this_card a_this_filled a_this_taken a_this_line a_this_one a_this_two o_this), (a_this_bytes, .inl (k_this_bytes, 2048, .inl (upd r_this_bytes_L69 (((p1 + p2) - (1 : Int32)) - (x4_69 / (2 : Int32))).toNatClampNeg ((r_this_bytes_L69 (((p1 + p2) - (1 : Int32)) - (x4_69 / (2 : Int32))).toNatClampNeg) + (-(r_this_one (x4_69 - (1 : Int32)).toNatClampNeg)))))), (a_this_one, .inl (k_this_one, 40, .inl r_this_one))] H := hP
                          have hD : va_D A [(a_this, oX8 a_this_bytes a_this_keys a_this_reg a_this_card a_this_filled a_this_taken a_this_line a_this_one a_this_two o_this), (a_this_bytes, .inl (k_this_bytes, 2048, .inl (upd r_this_bytes_L69 (((p1 + p2) - (1 : Int32)) - (x4_69 / (2 : Int32))).toNatClampNeg ((r_this_bytes_L69 (((p1 + p2) - (1 : Int32)) - (x4_69 / (2 : Int32))).toNatClampNeg) + (-(r_this_one (x4_69 - (1 : Int32)).toNatClampNeg)))))), (a_this_one, .inl (k_this_one, 40, .inl r_this_one))] := hD
                          refine lv_iinc (v := (x4_69 + (1 : Int32))) (lv' := [(4, .int (x4_69 + (1 : Int32))), (5, .int (-(r_this_one (x4_69 - (1 : Int32)).toNatClampNeg))), (3, .int (bI x3_5)), (0, .ref a_this), (1, .int p1), (2, .int p2)]) hx hb dX8_store_167 hl (k := 1) rfl rfl (by decide) rfl (fun ls hl => ?_)
                          refine lv_goto (tgt := 69) hx hb dX8_store_170 (by decide) ?_
                          exact ih (upd r_this_bytes_L69 (((p1 + p2) - (1 : Int32)) - (x4_69 / (2 : Int32))).toNatClampNeg ((r_this_bytes_L69 (((p1 + p2) - (1 : Int32)) - (x4_69 / (2 : Int32))).toNatClampNeg) + (-(r_this_one (x4_69 - (1 : Int32)).toNatClampNeg)))) (x4_69 + (1 : Int32)) _ _ _ (by first | exact q_up hm c_2 | exact q_up hm c_4 | exact q_up hm c_6 | exact q_up hm c_7 | exact q_up hm c_9 | exact q_up hm c_17)  hP hD hS (lv_sub hl [0, 2, 3, 4, 5] rfl) hF hs
                    · skip
                      rw [if_pos c_7] at hF
                      rw [if_pos c_7] at hs
                      refine lv_iload_n hx hb dX8_store_82 rfl (lv_at hl 1 rfl) ?_
                      refine lv_if_eq (tgt := 91) hx hb dX8_store_83 (by decide) (fun c_20 => ?_) (fun c_20 => ?_)
                      · have c_20 : ¬ x3_5 = true := by rw [(bI_eq0 _).mp c_20]; decide
                        rw [if_neg c_20] at hF
                        rw [if_neg c_20] at hs
                        refine lv_bipush (v := 12) hx hb dX8_store_91 (by decide) ?_
                        refine lv_goto (tgt := 130) hx hb dX8_store_93 (by decide) ?_
                        refine lv_istore (lv' := [(5, .int 12), (4, .int x4_69), (3, .int (bI x3_5)), (0, .ref a_this), (1, .int p1), (2, .int p2)]) hx hb dX8_store_130 hl (by decide) rfl (fun ls hl => ?_)
                        refine lv_aload_n hx hb dX8_store_132 rfl (lv_at hl 3 rfl) ?_
                        refine gf_X8_7 (v := .ref a_this_bytes) hx hb hown ht hK hP 0 rfl rfl dX8_store_133 ?_
                        refine lv_iload_n hx hb dX8_store_136 rfl (lv_at hl 4 rfl) ?_
                        refine lv_iload_n hx hb dX8_store_137 rfl (lv_at hl 5 rfl) ?_
                        refine lv_iadd hx hb dX8_store_138 ?_
                        refine lv_iconst (v := 1) hx hb dX8_store_139 (by decide) ?_
                        refine lv_isub hx hb dX8_store_140 ?_
                        refine lv_iload hx hb dX8_store_141 (lv_at hl 1 rfl) ?_
                        refine lv_iconst (v := 2) hx hb dX8_store_143 (by decide) ?_
                        refine lv_idiv hx hb dX8_store_144 (by decide) ?_
                        refine lv_isub hx hb dX8_store_145 ?_
                        refine lv_dup2_11 hx hb dX8_store_146 rfl rfl ?_
                        obtain ⟨hi_21, hs⟩ := hs
                        refine va_iald hx hb hK hP 1 0 rfl rfl hi_21 dX8_store_147 ?_
                        refine lv_iload hx hb dX8_store_148 (lv_at hl 1 rfl) ?_
                        refine lv_iconst (v := 2) hx hb dX8_store_150 (by decide) ?_
                        refine lv_irem hx hb dX8_store_151 (by decide) ?_
                        refine lv_if_ne (tgt := 160) hx hb dX8_store_152 (by decide) (fun c_22 => ?_) (fun c_22 => ?_)
                        · skip
                          rw [if_neg c_22] at hF
                          rw [if_neg c_22] at hs
                          refine lv_bipush (v := 16) hx hb dX8_store_160 (by decide) ?_
                          refine lv_iload hx hb dX8_store_162 (lv_at hl 0 rfl) ?_
                          refine lv_imul hx hb dX8_store_164 ?_
                          refine lv_iadd hx hb dX8_store_165 ?_
                          obtain ⟨hi_23, hs⟩ := hs
                          refine va_iast hx hb hK hP hD hS 1 0 rfl rfl hi_23 dX8_store_166 (fun H locs hP hD hS => ?_)
                          have hP : va_P D vwCl [(a_this, oX8 a_this_bytes a_this_keys a_this_reg a_this_card a_this_filled a_this_taken a_this_line a_this_one a_this_two o_this), (a_this_bytes, .inl (k_this_bytes, 2048, .inl (upd r_this_bytes_L69 (((p1 + p2) - (1 : Int32)) - (x4_69 / (2 : Int32))).toNatClampNeg ((r_this_bytes_L69 (((p1 + p2) - (1 : Int32)) - (x4_69 / (2 : Int32))).toNatClampNeg) + ((16 : Int32) * (12 : Int32)))))), (a_this_one, .inl (k_this_one, 40, .inl r_this_one))] H := hP
                          have hD : va_D A [(a_this, oX8 a_this_bytes a_this_keys a_this_reg a_this_card a_this_filled a_this_taken a_this_line a_this_one a_this_two o_this), (a_this_bytes, .inl (k_this_bytes, 2048, .inl (upd r_this_bytes_L69 (((p1 + p2) - (1 : Int32)) - (x4_69 / (2 : Int32))).toNatClampNeg ((r_this_bytes_L69 (((p1 + p2) - (1 : Int32)) - (x4_69 / (2 : Int32))).toNatClampNeg) + ((16 : Int32) * (12 : Int32)))))), (a_this_one, .inl (k_this_one, 40, .inl r_this_one))] := hD
                          refine lv_iinc (v := (x4_69 + (1 : Int32))) (lv' := [(4, .int (x4_69 + (1 : Int32))), (5, .int 12), (3, .int (bI x3_5)), (0, .ref a_this), (1, .int p1), (2, .int p2)]) hx hb dX8_store_167 hl (k := 1) rfl rfl (by decide) rfl (fun ls hl => ?_)
                          refine lv_goto (tgt := 69) hx hb dX8_store_170 (by decide) ?_
                          exact ih (upd r_this_bytes_L69 (((p1 + p2) - (1 : Int32)) - (x4_69 / (2 : Int32))).toNatClampNeg ((r_this_bytes_L69 (((p1 + p2) - (1 : Int32)) - (x4_69 / (2 : Int32))).toNatClampNeg) + ((16 : Int32) * (12 : Int32)))) (x4_69 + (1 : Int32)) _ _ _ (by first | exact q_up hm c_2 | exact q_up hm c_4 | exact q_up hm c_6 | exact q_up hm c_7 | exact q_up hm c_20 | exact q_up hm c_22)  hP hD hS (lv_sub hl [0, 2, 3, 4, 5] rfl) hF hs
                        · skip
                          rw [if_pos c_22] at hF
                          rw [if_pos c_22] at hs
                          refine lv_iload hx hb dX8_store_155 (lv_at hl 0 rfl) ?_
                          refine lv_goto (tgt := 165) hx hb dX8_store_157 (by decide) ?_
                          refine lv_iadd hx hb dX8_store_165 ?_
                          obtain ⟨hi_24, hs⟩ := hs
                          refine va_iast hx hb hK hP hD hS 1 0 rfl rfl hi_24 dX8_store_166 (fun H locs hP hD hS => ?_)
                          have hP : va_P D vwCl [(a_this, oX8 a_this_bytes a_this_keys a_this_reg a_this_card a_this_filled a_this_taken a_this_line a_this_one a_this_two o_this), (a_this_bytes, .inl (k_this_bytes, 2048, .inl (upd r_this_bytes_L69 (((p1 + p2) - (1 : Int32)) - (x4_69 / (2 : Int32))).toNatClampNeg ((r_this_bytes_L69 (((p1 + p2) - (1 : Int32)) - (x4_69 / (2 : Int32))).toNatClampNeg) + (12 : Int32))))), (a_this_one, .inl (k_this_one, 40, .inl r_this_one))] H := hP
                          have hD : va_D A [(a_this, oX8 a_this_bytes a_this_keys a_this_reg a_this_card a_this_filled a_this_taken a_this_line a_this_one a_this_two o_this), (a_this_bytes, .inl (k_this_bytes, 2048, .inl (upd r_this_bytes_L69 (((p1 + p2) - (1 : Int32)) - (x4_69 / (2 : Int32))).toNatClampNeg ((r_this_bytes_L69 (((p1 + p2) - (1 : Int32)) - (x4_69 / (2 : Int32))).toNatClampNeg) + (12 : Int32))))), (a_this_one, .inl (k_this_one, 40, .inl r_this_one))] := hD
                          refine lv_iinc (v := (x4_69 + (1 : Int32))) (lv' := [(4, .int (x4_69 + (1 : Int32))), (5, .int 12), (3, .int (bI x3_5)), (0, .ref a_this), (1, .int p1), (2, .int p2)]) hx hb dX8_store_167 hl (k := 1) rfl rfl (by decide) rfl (fun ls hl => ?_)
                          refine lv_goto (tgt := 69) hx hb dX8_store_170 (by decide) ?_
                          exact ih (upd r_this_bytes_L69 (((p1 + p2) - (1 : Int32)) - (x4_69 / (2 : Int32))).toNatClampNeg ((r_this_bytes_L69 (((p1 + p2) - (1 : Int32)) - (x4_69 / (2 : Int32))).toNatClampNeg) + (12 : Int32))) (x4_69 + (1 : Int32)) _ _ _ (by first | exact q_up hm c_2 | exact q_up hm c_4 | exact q_up hm c_6 | exact q_up hm c_7 | exact q_up hm c_20 | exact q_up hm c_22)  hP hD hS (lv_sub hl [0, 2, 3, 4, 5] rfl) hF hs
                      · have c_20 := (bI_ne0 _).mp c_20
                        rw [if_pos c_20] at hF
                        rw [if_pos c_20] at hs
                        refine lv_bipush (v := 13) hx hb dX8_store_86 (by decide) ?_
                        refine lv_goto (tgt := 130) hx hb dX8_store_88 (by decide) ?_
                        refine lv_istore (lv' := [(5, .int 13), (4, .int x4_69), (3, .int (bI x3_5)), (0, .ref a_this), (1, .int p1), (2, .int p2)]) hx hb dX8_store_130 hl (by decide) rfl (fun ls hl => ?_)
                        refine lv_aload_n hx hb dX8_store_132 rfl (lv_at hl 3 rfl) ?_
                        refine gf_X8_7 (v := .ref a_this_bytes) hx hb hown ht hK hP 0 rfl rfl dX8_store_133 ?_
                        refine lv_iload_n hx hb dX8_store_136 rfl (lv_at hl 4 rfl) ?_
                        refine lv_iload_n hx hb dX8_store_137 rfl (lv_at hl 5 rfl) ?_
                        refine lv_iadd hx hb dX8_store_138 ?_
                        refine lv_iconst (v := 1) hx hb dX8_store_139 (by decide) ?_
                        refine lv_isub hx hb dX8_store_140 ?_
                        refine lv_iload hx hb dX8_store_141 (lv_at hl 1 rfl) ?_
                        refine lv_iconst (v := 2) hx hb dX8_store_143 (by decide) ?_
                        refine lv_idiv hx hb dX8_store_144 (by decide) ?_
                        refine lv_isub hx hb dX8_store_145 ?_
                        refine lv_dup2_11 hx hb dX8_store_146 rfl rfl ?_
                        obtain ⟨hi_25, hs⟩ := hs
                        refine va_iald hx hb hK hP 1 0 rfl rfl hi_25 dX8_store_147 ?_
                        refine lv_iload hx hb dX8_store_148 (lv_at hl 1 rfl) ?_
                        refine lv_iconst (v := 2) hx hb dX8_store_150 (by decide) ?_
                        refine lv_irem hx hb dX8_store_151 (by decide) ?_
                        refine lv_if_ne (tgt := 160) hx hb dX8_store_152 (by decide) (fun c_26 => ?_) (fun c_26 => ?_)
                        · skip
                          rw [if_neg c_26] at hF
                          rw [if_neg c_26] at hs
                          refine lv_bipush (v := 16) hx hb dX8_store_160 (by decide) ?_
                          refine lv_iload hx hb dX8_store_162 (lv_at hl 0 rfl) ?_
                          refine lv_imul hx hb dX8_store_164 ?_
                          refine lv_iadd hx hb dX8_store_165 ?_
                          obtain ⟨hi_27, hs⟩ := hs
                          refine va_iast hx hb hK hP hD hS 1 0 rfl rfl hi_27 dX8_store_166 (fun H locs hP hD hS => ?_)
                          have hP : va_P D vwCl [(a_this, oX8 a_this_bytes a_this_keys a_this_reg a_this_card a_this_filled a_this_taken a_this_line a_this_one a_this_two o_this), (a_this_bytes, .inl (k_this_bytes, 2048, .inl (upd r_this_bytes_L69 (((p1 + p2) - (1 : Int32)) - (x4_69 / (2 : Int32))).toNatClampNeg ((r_this_bytes_L69 (((p1 + p2) - (1 : Int32)) - (x4_69 / (2 : Int32))).toNatClampNeg) + ((16 : Int32) * (13 : Int32)))))), (a_this_one, .inl (k_this_one, 40, .inl r_this_one))] H := hP
                          have hD : va_D A [(a_this, oX8 a_this_bytes a_this_keys a_this_reg a_this_card a_this_filled a_this_taken a_this_line a_this_one a_this_two o_this), (a_this_bytes, .inl (k_this_bytes, 2048, .inl (upd r_this_bytes_L69 (((p1 + p2) - (1 : Int32)) - (x4_69 / (2 : Int32))).toNatClampNeg ((r_this_bytes_L69 (((p1 + p2) - (1 : Int32)) - (x4_69 / (2 : Int32))).toNatClampNeg) + ((16 : Int32) * (13 : Int32)))))), (a_this_one, .inl (k_this_one, 40, .inl r_this_one))] := hD
                          refine lv_iinc (v := (x4_69 + (1 : Int32))) (lv' := [(4, .int (x4_69 + (1 : Int32))), (5, .int 13), (3, .int (bI x3_5)), (0, .ref a_this), (1, .int p1), (2, .int p2)]) hx hb dX8_store_167 hl (k := 1) rfl rfl (by decide) rfl (fun ls hl => ?_)
                          refine lv_goto (tgt := 69) hx hb dX8_store_170 (by decide) ?_
                          exact ih (upd r_this_bytes_L69 (((p1 + p2) - (1 : Int32)) - (x4_69 / (2 : Int32))).toNatClampNeg ((r_this_bytes_L69 (((p1 + p2) - (1 : Int32)) - (x4_69 / (2 : Int32))).toNatClampNeg) + ((16 : Int32) * (13 : Int32)))) (x4_69 + (1 : Int32)) _ _ _ (by first | exact q_up hm c_2 | exact q_up hm c_4 | exact q_up hm c_6 | exact q_up hm c_7 | exact q_up hm c_20 | exact q_up hm c_26)  hP hD hS (lv_sub hl [0, 2, 3, 4, 5] rfl) hF hs
                        · skip
                          rw [if_pos c_26] at hF
                          rw [if_pos c_26] at hs
                          refine lv_iload hx hb dX8_store_155 (lv_at hl 0 rfl) ?_
                          refine lv_goto (tgt := 165) hx hb dX8_store_157 (by decide) ?_
                          refine lv_iadd hx hb dX8_store_165 ?_
                          obtain ⟨hi_28, hs⟩ := hs
                          refine va_iast hx hb hK hP hD hS 1 0 rfl rfl hi_28 dX8_store_166 (fun H locs hP hD hS => ?_)
                          have hP : va_P D vwCl [(a_this, oX8 a_this_bytes a_this_keys a_this_reg a_this_card a_this_filled a_this_taken a_this_line a_this_one a_this_two o_this), (a_this_bytes, .inl (k_this_bytes, 2048, .inl (upd r_this_bytes_L69 (((p1 + p2) - (1 : Int32)) - (x4_69 / (2 : Int32))).toNatClampNeg ((r_this_bytes_L69 (((p1 + p2) - (1 : Int32)) - (x4_69 / (2 : Int32))).toNatClampNeg) + (13 : Int32))))), (a_this_one, .inl (k_this_one, 40, .inl r_this_one))] H := hP
                          have hD : va_D A [(a_this, oX8 a_this_bytes a_this_keys a_this_reg a_this_card a_this_filled a_this_taken a_this_line a_this_one a_this_two o_this), (a_this_bytes, .inl (k_this_bytes, 2048, .inl (upd r_this_bytes_L69 (((p1 + p2) - (1 : Int32)) - (x4_69 / (2 : Int32))).toNatClampNeg ((r_this_bytes_L69 (((p1 + p2) - (1 : Int32)) - (x4_69 / (2 : Int32))).toNatClampNeg) + (13 : Int32))))), (a_this_one, .inl (k_this_one, 40, .inl r_this_one))] := hD
                          refine lv_iinc (v := (x4_69 + (1 : Int32))) (lv' := [(4, .int (x4_69 + (1 : Int32))), (5, .int 13), (3, .int (bI x3_5)), (0, .ref a_this), (1, .int p1), (2, .int p2)]) hx hb dX8_store_167 hl (k := 1) rfl rfl (by decide) rfl (fun ls hl => ?_)
                          refine lv_goto (tgt := 69) hx hb dX8_store_170 (by decide) ?_
                          exact ih (upd r_this_bytes_L69 (((p1 + p2) - (1 : Int32)) - (x4_69 / (2 : Int32))).toNatClampNeg ((r_this_bytes_L69 (((p1 + p2) - (1 : Int32)) - (x4_69 / (2 : Int32))).toNatClampNeg) + (13 : Int32))) (x4_69 + (1 : Int32)) _ _ _ (by first | exact q_up hm c_2 | exact q_up hm c_4 | exact q_up hm c_6 | exact q_up hm c_7 | exact q_up hm c_20 | exact q_up hm c_26)  hP hD hS (lv_sub hl [0, 2, 3, 4, 5] rfl) hF hs
              exact L69 ((((2 : Int32) * p2 : Int32).toInt - (0 : Int32).toInt).toNat + 1) r_this_bytes_L44 0 _ _ _ (Nat.lt_succ_self _)  hP hD hS (lv_sub hl [0, 1, 2, 3, 4] rfl) hF hs
            · skip
              rw [if_neg c_4] at hF
              rw [if_neg c_4] at hs
              refine lv_aload_n hx hb dX8_store_50 rfl (lv_at hl 2 rfl) ?_
              refine gf_X8_7 (v := .ref a_this_bytes) hx hb hown ht hK hP 0 rfl rfl dX8_store_51 ?_
              refine lv_iload_n hx hb dX8_store_54 rfl (lv_at hl 3 rfl) ?_
              refine lv_iload hx hb dX8_store_55 (lv_at hl 0 rfl) ?_
              refine lv_iadd hx hb dX8_store_57 ?_
              refine lv_iconst (v := 0) hx hb dX8_store_58 (by decide) ?_
              obtain ⟨hi_29, hs⟩ := hs
              refine va_iast hx hb hK hP hD hS 1 0 rfl rfl hi_29 dX8_store_59 (fun H locs hP hD hS => ?_)
              have hP : va_P D vwCl [(a_this, oX8 a_this_bytes a_this_keys a_this_reg a_this_card a_this_filled a_this_taken a_this_line a_this_one a_this_two o_this), (a_this_bytes, .inl (k_this_bytes, 2048, .inl (upd r_this_bytes_L44 (p1 + x4_44).toNatClampNeg 0))), (a_this_one, .inl (k_this_one, 40, .inl r_this_one))] H := hP
              have hD : va_D A [(a_this, oX8 a_this_bytes a_this_keys a_this_reg a_this_card a_this_filled a_this_taken a_this_line a_this_one a_this_two o_this), (a_this_bytes, .inl (k_this_bytes, 2048, .inl (upd r_this_bytes_L44 (p1 + x4_44).toNatClampNeg 0))), (a_this_one, .inl (k_this_one, 40, .inl r_this_one))] := hD
              refine lv_iinc (v := (x4_44 + (1 : Int32))) (lv' := [(4, .int (x4_44 + (1 : Int32))), (3, .int (bI x3_5)), (0, .ref a_this), (1, .int p1), (2, .int p2)]) hx hb dX8_store_60 hl (k := 0) rfl rfl (by decide) rfl (fun ls hl => ?_)
              refine lv_goto (tgt := 44) hx hb dX8_store_63 (by decide) ?_
              exact ih (upd r_this_bytes_L44 (p1 + x4_44).toNatClampNeg 0) (x4_44 + (1 : Int32)) _ _ _ (by first | exact q_up hm c_2 | exact q_up hm c_4)  hP hD hS (lv_sub hl [0, 1, 2, 3, 4] rfl) hF hs
        exact L44 (((p2 : Int32).toInt - (0 : Int32).toInt).toNat + 1) r_this_bytes 0 _ _ _ (Nat.lt_succ_self _)  hP hD hS (lv_sub hl [0, 1, 2, 3, 4] rfl) hF hs
      · skip
        rw [if_neg c_2] at hF
        rw [if_neg c_2] at hs
        refine lv_iload_n hx hb dX8_store_15 rfl (lv_at hl 1 rfl) ?_
        refine lv_if_ne (tgt := 29) hx hb dX8_store_16 (by decide) (fun c_30 => ?_) (fun c_30 => ?_)
        · have c_30 := (bI_ne0 _).mp c_30
          rw [if_pos c_30] at hF
          rw [if_pos c_30] at hs
          refine lv_iconst (v := 1) hx hb dX8_store_29 (by decide) ?_
          refine lv_goto (tgt := 34) hx hb dX8_store_30 (by decide) ?_
          refine lv_istore_n (lv' := [(3, .int 1), (4, .int x4_5), (0, .ref a_this), (1, .int p1), (2, .int p2)]) hx hb dX8_store_34 rfl hl (by decide) rfl (fun ls hl => ?_)
          refine lv_iinc (v := (x4_5 + (1 : Int32))) (lv' := [(4, .int (x4_5 + (1 : Int32))), (3, .int 1), (0, .ref a_this), (1, .int p1), (2, .int p2)]) hx hb dX8_store_35 hl (k := 1) rfl rfl (by decide) rfl (fun ls hl => ?_)
          refine lv_goto (tgt := 5) hx hb dX8_store_38 (by decide) ?_
          exact ih (x4_5 + (1 : Int32)) true _ _ _ (by first | exact q_up hm c_2 | exact q_up hm c_30)  hP hD hS (lv_sub hl [0, 1, 2, 3, 4] rfl) hF hs
        · have c_30 : ¬ x3_5 = true := by rw [(bI_eq0 _).mp c_30]; decide
          rw [if_neg c_30] at hF
          rw [if_neg c_30] at hs
          refine lv_aload_n hx hb dX8_store_19 rfl (lv_at hl 2 rfl) ?_
          refine gf_X8_31 (v := .ref a_this_one) hx hb hown ht hK hP 0 rfl rfl dX8_store_20 ?_
          refine lv_iload hx hb dX8_store_23 (lv_at hl 0 rfl) ?_
          obtain ⟨hi_31, hs⟩ := hs
          refine va_iald hx hb hK hP 2 1 rfl rfl hi_31 dX8_store_25 ?_
          refine lv_if_ge (tgt := 33) hx hb dX8_store_26 (by decide) (fun c_32 => ?_) (fun c_32 => ?_)
          · skip
            rw [if_pos c_32] at hF
            rw [if_pos c_32] at hs
            refine lv_iconst (v := 0) hx hb dX8_store_33 (by decide) ?_
            refine lv_istore_n (lv' := [(3, .int 0), (4, .int x4_5), (0, .ref a_this), (1, .int p1), (2, .int p2)]) hx hb dX8_store_34 rfl hl (by decide) rfl (fun ls hl => ?_)
            refine lv_iinc (v := (x4_5 + (1 : Int32))) (lv' := [(4, .int (x4_5 + (1 : Int32))), (3, .int 0), (0, .ref a_this), (1, .int p1), (2, .int p2)]) hx hb dX8_store_35 hl (k := 1) rfl rfl (by decide) rfl (fun ls hl => ?_)
            refine lv_goto (tgt := 5) hx hb dX8_store_38 (by decide) ?_
            exact ih (x4_5 + (1 : Int32)) false _ _ _ (by first | exact q_up hm c_2 | exact q_up hm c_30 | exact q_up hm c_32)  hP hD hS (lv_sub hl [0, 1, 2, 3, 4] rfl) hF hs
          · skip
            rw [if_neg c_32] at hF
            rw [if_neg c_32] at hs
            refine lv_iconst (v := 1) hx hb dX8_store_29 (by decide) ?_
            refine lv_goto (tgt := 34) hx hb dX8_store_30 (by decide) ?_
            refine lv_istore_n (lv' := [(3, .int 1), (4, .int x4_5), (0, .ref a_this), (1, .int p1), (2, .int p2)]) hx hb dX8_store_34 rfl hl (by decide) rfl (fun ls hl => ?_)
            refine lv_iinc (v := (x4_5 + (1 : Int32))) (lv' := [(4, .int (x4_5 + (1 : Int32))), (3, .int 1), (0, .ref a_this), (1, .int p1), (2, .int p2)]) hx hb dX8_store_35 hl (k := 1) rfl rfl (by decide) rfl (fun ls hl => ?_)
            refine lv_goto (tgt := 5) hx hb dX8_store_38 (by decide) ?_
            exact ih (x4_5 + (1 : Int32)) true _ _ _ (by first | exact q_up hm c_2 | exact q_up hm c_30 | exact q_up hm c_32)  hP hD hS (lv_sub hl [0, 1, 2, 3, 4] rfl) hF hs
  exact L5 (((((2 : Int32) * p2) - (1 : Int32) : Int32).toInt - (0 : Int32).toInt).toNat + 1) 0 false _ _ _ (Nat.lt_succ_self _)  hP hD hS (lv_sub hl [0, 1, 2, 3, 4] rfl) hF hs
theorem cv_X8_store : qV yX8_store cX8_store 6 none 2 := ⟨kc_X8_store, kt_X8_store, ks_X8_store, kn_X8, by decide, by decide +kernel⟩
def f_X8_toBinary_L31 (r_this_reg : Nat → Int32) (p1 : Int32) : Nat → (Int32 × Int32 × Int32 × Int32 × Bool × Bool × Int32 × Int32 × Int32 × Int32 × Bool × Bool × Bool × Int32 × Int32 × Int32 × Int32 × Int32 × Int32 × Int32 × Int32 × Int32 × Int32 × Int32 × Int32) → (Nat → Int32) → Int32 → Int64 → (Int32 × Int32 × Int32 × Int32 × Bool × Bool × Int32 × Int32 × Int32 × Int32 × Bool × Bool × Bool × Int32 × Int32 × Int32 × Int32 × Int32 × Int32 × Int32 × Int32 × Int32 × Int32 × Int32 × Int32) × (Nat → Int32) × (Nat → Int32)
  | 0, o_this_L31, r_this_one_L31, x5, x3 => (o_this_L31, r_this_one_L31, r_this_reg)
  | fuel + 1, o_this_L31, r_this_one_L31, x5, x3 => (if x5 < 0 then (if 0 < (lg_cmp x3 2147483647) then (q_let (f_X8_wrong o_this_L31 true 9) fun w_8 => (if w_8.2.2.2.2.2.2.2.2.1 = 0 then (w_8, r_this_one_L31, (upd r_this_reg p1.toNatClampNeg x3.toInt32)) else (w_8, r_this_one_L31, r_this_reg))) else (if 0 ≤ (lg_cmp x3 (-2147483648)) then (q_let (f_X8_wrong o_this_L31 false 9) fun w_12 => (if w_12.2.2.2.2.2.2.2.2.1 = 0 then (w_12, r_this_one_L31, (upd r_this_reg p1.toNatClampNeg x3.toInt32)) else (w_12, r_this_one_L31, r_this_reg))) else (q_let (f_X8_wrong o_this_L31 true 9) fun w_15 => (if w_15.2.2.2.2.2.2.2.2.1 = 0 then (w_15, r_this_one_L31, (upd r_this_reg p1.toNatClampNeg x3.toInt32)) else (w_15, r_this_one_L31, r_this_reg))))) else f_X8_toBinary_L31 r_this_reg p1 fuel o_this_L31 r_this_one_L31 (x5 + ((-1) : Int32)) (((10 : Int64) * x3) + ((r_this_one_L31 x5.toNatClampNeg).toInt64)))
def s_X8_toBinary_L31 (p1 : Int32) : Nat → (Int32 × Int32 × Int32 × Int32 × Bool × Bool × Int32 × Int32 × Int32 × Int32 × Bool × Bool × Bool × Int32 × Int32 × Int32 × Int32 × Int32 × Int32 × Int32 × Int32 × Int32 × Int32 × Int32 × Int32) → (Nat → Int32) → Int32 → Int64 → Prop
  | 0, _, _, _, _ => True
  | fuel + 1, o_this_L31, r_this_one_L31, x5, x3 => (if x5 < 0 then (if 0 < (lg_cmp x3 2147483647) then (q_let (f_X8_wrong o_this_L31 true 9) fun w_8 => (if w_8.2.2.2.2.2.2.2.2.1 = 0 then vp_in p1 16 else True)) else (if 0 ≤ (lg_cmp x3 (-2147483648)) then (q_let (f_X8_wrong o_this_L31 false 9) fun w_12 => (if w_12.2.2.2.2.2.2.2.2.1 = 0 then vp_in p1 16 else True)) else (q_let (f_X8_wrong o_this_L31 true 9) fun w_15 => (if w_15.2.2.2.2.2.2.2.2.1 = 0 then vp_in p1 16 else True)))) else (vp_in x5 40 ∧ s_X8_toBinary_L31 p1 fuel o_this_L31 r_this_one_L31 (x5 + ((-1) : Int32)) (((10 : Int64) * x3) + ((r_this_one_L31 x5.toNatClampNeg).toInt64))))
def f_X8_toBinary_L31b (r_this_reg : Nat → Int32) (p1 : Int32) : Nat → (Int32 × Int32 × Int32 × Int32 × Bool × Bool × Int32 × Int32 × Int32 × Int32 × Bool × Bool × Bool × Int32 × Int32 × Int32 × Int32 × Int32 × Int32 × Int32 × Int32 × Int32 × Int32 × Int32 × Int32) → (Nat → Int32) → Int32 → Int64 → (Int32 × Int32 × Int32 × Int32 × Bool × Bool × Int32 × Int32 × Int32 × Int32 × Bool × Bool × Bool × Int32 × Int32 × Int32 × Int32 × Int32 × Int32 × Int32 × Int32 × Int32 × Int32 × Int32 × Int32) × (Nat → Int32) × (Nat → Int32)
  | 0, o_this_L31, r_this_one_L31, x5, x3 => (o_this_L31, r_this_one_L31, r_this_reg)
  | fuel + 1, o_this_L31, r_this_one_L31, x5, x3 => (if x5 < 0 then (if 0 < (lg_cmp x3 2147483647) then (q_let (f_X8_wrong o_this_L31 true 9) fun w_23 => (if w_23.2.2.2.2.2.2.2.2.1 = 0 then (w_23, r_this_one_L31, (upd r_this_reg p1.toNatClampNeg x3.toInt32)) else (w_23, r_this_one_L31, r_this_reg))) else (if 0 ≤ (lg_cmp x3 (-2147483648)) then (q_let (f_X8_wrong o_this_L31 false 9) fun w_27 => (if w_27.2.2.2.2.2.2.2.2.1 = 0 then (w_27, r_this_one_L31, (upd r_this_reg p1.toNatClampNeg x3.toInt32)) else (w_27, r_this_one_L31, r_this_reg))) else (q_let (f_X8_wrong o_this_L31 true 9) fun w_30 => (if w_30.2.2.2.2.2.2.2.2.1 = 0 then (w_30, r_this_one_L31, (upd r_this_reg p1.toNatClampNeg x3.toInt32)) else (w_30, r_this_one_L31, r_this_reg))))) else f_X8_toBinary_L31b r_this_reg p1 fuel o_this_L31 r_this_one_L31 (x5 + ((-1) : Int32)) (((10 : Int64) * x3) + ((r_this_one_L31 x5.toNatClampNeg).toInt64)))
def s_X8_toBinary_L31b (p1 : Int32) : Nat → (Int32 × Int32 × Int32 × Int32 × Bool × Bool × Int32 × Int32 × Int32 × Int32 × Bool × Bool × Bool × Int32 × Int32 × Int32 × Int32 × Int32 × Int32 × Int32 × Int32 × Int32 × Int32 × Int32 × Int32) → (Nat → Int32) → Int32 → Int64 → Prop
  | 0, _, _, _, _ => True
  | fuel + 1, o_this_L31, r_this_one_L31, x5, x3 => (if x5 < 0 then (if 0 < (lg_cmp x3 2147483647) then (q_let (f_X8_wrong o_this_L31 true 9) fun w_23 => (if w_23.2.2.2.2.2.2.2.2.1 = 0 then vp_in p1 16 else True)) else (if 0 ≤ (lg_cmp x3 (-2147483648)) then (q_let (f_X8_wrong o_this_L31 false 9) fun w_27 => (if w_27.2.2.2.2.2.2.2.2.1 = 0 then vp_in p1 16 else True)) else (q_let (f_X8_wrong o_this_L31 true 9) fun w_30 => (if w_30.2.2.2.2.2.2.2.2.1 = 0 then vp_in p1 16 else True)))) else (vp_in x5 40 ∧ s_X8_toBinary_L31b p1 fuel o_this_L31 r_this_one_L31 (x5 + ((-1) : Int32)) (((10 : Int64) * x3) + ((r_this_one_L31 x5.toNatClampNeg).toInt64))))
def f_X8_toBinary (o_this : Int32 × Int32 × Int32 × Int32 × Bool × Bool × Int32 × Int32 × Int32 × Int32 × Bool × Bool × Bool × Int32 × Int32 × Int32 × Int32 × Int32 × Int32 × Int32 × Int32 × Int32 × Int32 × Int32 × Int32) (r_this_bytes : Nat → Int32) (r_this_one : Nat → Int32) (r_this_reg : Nat → Int32) (p1 : Int32) (p2 : Int32) : (Int32 × Int32 × Int32 × Int32 × Bool × Bool × Int32 × Int32 × Int32 × Int32 × Bool × Bool × Bool × Int32 × Int32 × Int32 × Int32 × Int32 × Int32 × Int32 × Int32 × Int32 × Int32 × Int32 × Int32) × (Nat → Int32) × (Nat → Int32) := (q_let (f_X8_unpackA r_this_bytes r_this_one p2 8) fun w_2 => (if w_2.1 = true then (q_let (f_X8_wrong o_this false 7) fun w_4 => f_X8_toBinary_L31 r_this_reg p1 (((14 : Int32).toInt + 1).toNat + 1) w_4 w_2.2 14 0) else (q_let (f_X8_wrong o_this true 7) fun w_19 => f_X8_toBinary_L31b r_this_reg p1 (((14 : Int32).toInt + 1).toNat + 1) w_19 w_2.2 14 0)))
def s_X8_toBinary (o_this : Int32 × Int32 × Int32 × Int32 × Bool × Bool × Int32 × Int32 × Int32 × Int32 × Bool × Bool × Bool × Int32 × Int32 × Int32 × Int32 × Int32 × Int32 × Int32 × Int32 × Int32 × Int32 × Int32 × Int32) (r_this_bytes : Nat → Int32) (r_this_one : Nat → Int32) (p1 : Int32) (p2 : Int32) : Prop := (s_X8_unpackA r_this_bytes r_this_one p2 8 ∧ (q_let (f_X8_unpackA r_this_bytes r_this_one p2 8) fun w_2 => (if w_2.1 = true then (q_let (f_X8_wrong o_this false 7) fun w_4 => s_X8_toBinary_L31 p1 (((14 : Int32).toInt + 1).toNat + 1) w_4 w_2.2 14 0) else (q_let (f_X8_wrong o_this true 7) fun w_19 => s_X8_toBinary_L31b p1 (((14 : Int32).toInt + 1).toNat + 1) w_19 w_2.2 14 0))))
set_option linter.all false in
set_option maxHeartbeats 4000000 in
set_option maxRecDepth 100000 in
theorem c_X8_toBinary (l : Launch) (D : va_G) (a_this a_this_bytes a_this_one a_this_reg a_this_keys a_this_card a_this_filled a_this_taken a_this_line a_this_two : Nat) (k_this_bytes k_this_one k_this_reg : ClassId) (o_this : Int32 × Int32 × Int32 × Int32 × Bool × Bool × Int32 × Int32 × Int32 × Int32 × Bool × Bool × Bool × Int32 × Int32 × Int32 × Int32 × Int32 × Int32 × Int32 × Int32 × Int32 × Int32 × Int32 × Int32) (r_this_bytes : Nat → Int32) (r_this_one : Nat → Int32) (r_this_reg : Nat → Int32) (p1 : Int32) (p2 : Int32) (hs : s_X8_toBinary o_this r_this_bytes r_this_one p1 p2) : CtV l yX8_toBinary cX8_toBinary 6 none { frames := 2, cells := 0, slots := 0, locals := 51 } D [.ref a_this, .int p1, .int p2] [(a_this, oX8 a_this_bytes a_this_keys a_this_reg a_this_card a_this_filled a_this_taken a_this_line a_this_one a_this_two o_this), (a_this_bytes, .inl (k_this_bytes, 2048, .inl r_this_bytes)), (a_this_one, .inl (k_this_one, 40, .inl r_this_one)), (a_this_reg, .inl (k_this_reg, 16, .inl r_this_reg))] [(k_this_bytes, .int), (k_this_one, .int), (k_this_reg, .int)] (fun (u : (Int32 × Int32 × Int32 × Int32 × Bool × Bool × Int32 × Int32 × Int32 × Int32 × Bool × Bool × Bool × Int32 × Int32 × Int32 × Int32 × Int32 × Int32 × Int32 × Int32 × Int32 × Int32 × Int32 × Int32) × (Nat → Int32) × (Nat → Int32)) => f_X8_toBinary o_this r_this_bytes r_this_one r_this_reg p1 p2 = u) (fun u => [(a_this, oX8 a_this_bytes a_this_keys a_this_reg a_this_card a_this_filled a_this_taken a_this_line a_this_one a_this_two u.1), (a_this_bytes, .inl (k_this_bytes, 2048, .inl r_this_bytes)), (a_this_one, .inl (k_this_one, 40, .inl u.2.1)), (a_this_reg, .inl (k_this_reg, 16, .inl u.2.2))]) := by
  refine CtV.of (by decide) (Nat.le_of_ble_eq_true rfl) ?_
  intro p e s m below meth c A ls Q hE hP hD hS hl hQ
  obtain ⟨hx, hb, hml, hown, ht, hN, hK, hA⟩ := hE
  have hown : s.vm.findClass RX8 = some m.cls := hown
  have hl : lv_has ls 6 [(0, .ref a_this), (1, .int p1), (2, .int p2)] := hl
  obtain ⟨F, hF⟩ : ∃ F, f_X8_toBinary o_this r_this_bytes r_this_one r_this_reg p1 p2 = F := ⟨_, rfl⟩
  rw [hF] at hQ
  unfold f_X8_toBinary at hF
  unfold s_X8_toBinary at hs
  refine lv_aload_n hx hb dX8_toBinary_0 rfl (lv_at hl 0 rfl) ?_
  refine lv_aload_n hx hb dX8_toBinary_1 rfl (lv_at hl 0 rfl) ?_
  refine lv_aload_n hx hb dX8_toBinary_2 rfl (lv_at hl 0 rfl) ?_
  refine gf_X8_31 (v := .ref a_this_one) hx hb hown ht hK hP 0 rfl rfl dX8_toBinary_3 ?_
  refine lv_iload_n hx hb dX8_toBinary_6 rfl (lv_at hl 2 rfl) ?_
  refine lv_bipush (v := 8) hx hb dX8_toBinary_7 (by decide) ?_
  obtain ⟨hi_1, hs⟩ := hs
  refine q_Vi (rest := [.ref a_this]) (c_X8_unpackA l D a_this a_this_bytes a_this_one a_this_keys a_this_reg a_this_card a_this_filled a_this_taken a_this_line a_this_two k_this_bytes k_this_one o_this r_this_bytes r_this_one p2 8 hi_1) cv_X8_unpack hx hb hml hown ht hN hK hA hP hD hS hl.1 (km_X8_180) ⟨Nat.le_of_ble_eq_true rfl, Nat.le_of_ble_eq_true rfl⟩ rfl rfl [0, 1, 2] (by decide) rfl [0, 1] rfl (fun _ => rfl) (ci := 8) rfl rfl rfl rfl rfl (Nat.le_of_ble_eq_true rfl) dX8_toBinary_9 ⟨Nat.zero_le _, Nat.zero_le _⟩ (fun r w_2 H locs hw hP hD hS => ?_)
  obtain ⟨hw, hr⟩ := hw
  subst hr
  have hP : va_P D vwCl [(a_this, oX8 a_this_bytes a_this_keys a_this_reg a_this_card a_this_filled a_this_taken a_this_line a_this_one a_this_two o_this), (a_this_bytes, .inl (k_this_bytes, 2048, .inl r_this_bytes)), (a_this_one, .inl (k_this_one, 40, .inl w_2.2)), (a_this_reg, .inl (k_this_reg, 16, .inl r_this_reg))] H := hP
  have hD : va_D A [(a_this, oX8 a_this_bytes a_this_keys a_this_reg a_this_card a_this_filled a_this_taken a_this_line a_this_one a_this_two o_this), (a_this_bytes, .inl (k_this_bytes, 2048, .inl r_this_bytes)), (a_this_one, .inl (k_this_one, 40, .inl w_2.2)), (a_this_reg, .inl (k_this_reg, 16, .inl r_this_reg))] := hD
  rw [q_let_of hw] at hF
  rw [q_let_of hw] at hs
  refine lv_if_ne (tgt := 19) hx hb dX8_toBinary_12 (by decide) (fun c_3 => ?_) (fun c_3 => ?_)
  · have c_3 := (bI_ne0 _).mp c_3
    rw [if_pos c_3] at hF
    rw [if_pos c_3] at hs
    refine lv_iconst (v := 0) hx hb dX8_toBinary_19 (by decide) ?_
    refine lv_bipush (v := 7) hx hb dX8_toBinary_20 (by decide) ?_
    refine q_Vv (rest := []) (c_X8_wrong l D a_this a_this_bytes a_this_keys a_this_reg a_this_card a_this_filled a_this_taken a_this_line a_this_one a_this_two o_this false 7) cv_X8_wrong hx hb hml hown ht hN hK hA hP hD hS hl.1 (km_X8_42) ⟨Nat.le_of_ble_eq_true rfl, Nat.le_of_ble_eq_true rfl⟩ rfl rfl [0] (by decide) rfl [] rfl (fun _ => rfl) (ci := 8) rfl rfl rfl rfl rfl (Nat.le_of_ble_eq_true rfl) dX8_toBinary_22 ⟨Nat.zero_le _, Nat.zero_le _⟩ (fun w_4 H locs hw hP hD hS => ?_)
    have hP : va_P D vwCl [(a_this, oX8 a_this_bytes a_this_keys a_this_reg a_this_card a_this_filled a_this_taken a_this_line a_this_one a_this_two w_4), (a_this_bytes, .inl (k_this_bytes, 2048, .inl r_this_bytes)), (a_this_one, .inl (k_this_one, 40, .inl w_2.2)), (a_this_reg, .inl (k_this_reg, 16, .inl r_this_reg))] H := hP
    have hD : va_D A [(a_this, oX8 a_this_bytes a_this_keys a_this_reg a_this_card a_this_filled a_this_taken a_this_line a_this_one a_this_two w_4), (a_this_bytes, .inl (k_this_bytes, 2048, .inl r_this_bytes)), (a_this_one, .inl (k_this_one, 40, .inl w_2.2)), (a_this_reg, .inl (k_this_reg, 16, .inl r_this_reg))] := hD
    rw [q_let_of hw] at hF
    rw [q_let_of hw] at hs
    refine lv_lconst (v := 0) hx hb dX8_toBinary_25 (by decide) ?_
    refine lv_lstore_n (lv' := [(3, .long 0), (0, .ref a_this), (1, .int p1), (2, .int p2)]) hx hb dX8_toBinary_26 rfl hl (by decide) rfl (fun ls hl => ?_)
    refine lv_bipush (v := 14) hx hb dX8_toBinary_27 (by decide) ?_
    refine lv_istore (lv' := [(5, .int 14), (3, .long 0), (0, .ref a_this), (1, .int p1), (2, .int p2)]) hx hb dX8_toBinary_29 hl (by decide) rfl (fun ls hl => ?_)
    have L31 : ∀ (fuel : Nat) (o_this_L31 : Int32 × Int32 × Int32 × Int32 × Bool × Bool × Int32 × Int32 × Int32 × Int32 × Bool × Bool × Bool × Int32 × Int32 × Int32 × Int32 × Int32 × Int32 × Int32 × Int32 × Int32 × Int32 × Int32 × Int32) (r_this_one_L31 : Nat → Int32) (x5 : Int32) (x3 : Int64) (H : Heap) (locs : List Loc) (ls : Array Slot), ((x5 : Int32).toInt + 1).toNat < fuel → va_P D vwCl [(a_this, oX8 a_this_bytes a_this_keys a_this_reg a_this_card a_this_filled a_this_taken a_this_line a_this_one a_this_two o_this_L31), (a_this_bytes, .inl (k_this_bytes, 2048, .inl r_this_bytes)), (a_this_one, .inl (k_this_one, 40, .inl r_this_one_L31)), (a_this_reg, .inl (k_this_reg, 16, .inl r_this_reg))] H → va_D A [(a_this, oX8 a_this_bytes a_this_keys a_this_reg a_this_card a_this_filled a_this_taken a_this_line a_this_one a_this_two o_this_L31), (a_this_bytes, .inl (k_this_bytes, 2048, .inl r_this_bytes)), (a_this_one, .inl (k_this_one, 40, .inl r_this_one_L31)), (a_this_reg, .inl (k_this_reg, 16, .inl r_this_reg))] → va_S A s.heap H locs → lv_has ls 6 [(5, .int x5), (3, .long x3), (0, .ref a_this), (1, .int p1), (2, .int p2)] → f_X8_toBinary_L31 r_this_reg p1 fuel o_this_L31 r_this_one_L31 x5 x3 = F → s_X8_toBinary_L31 p1 fuel o_this_L31 r_this_one_L31 x5 x3 → W p l e ({ frames := 2, cells := 0, slots := 0, locals := 51 } : Room) s m ([.ref a_this, .int p1, .int p2] : List Value).toArray below meth c H locs 0 0 Q (F0 m 31 ls []) := by
      intro fuel
      induction fuel with
      | zero => intro o_this_L31 r_this_one_L31 x5 x3 H locs ls hm; exact absurd hm (Nat.not_lt_zero _)
      | succ fuel ih =>
        intro o_this_L31 r_this_one_L31 x5 x3 H locs ls hm  hP hD hS hl hF hs
        rw [f_X8_toBinary_L31] at hF
        rw [s_X8_toBinary_L31] at hs
        skip
        refine lv_iload hx hb dX8_toBinary_31 (lv_at hl 0 rfl) ?_
        refine lv_if_lt (tgt := 57) hx hb dX8_toBinary_33 (by decide) (fun c_6 => ?_) (fun c_6 => ?_)
        · skip
          rw [if_pos c_6] at hF
          rw [if_pos c_6] at hs
          refine lv_aload_n hx hb dX8_toBinary_57 rfl (lv_at hl 2 rfl) ?_
          refine lv_lload_n hx hb dX8_toBinary_58 rfl (lv_at hl 1 rfl) ?_
          refine lv_ldc2 (v := 2147483647) hx hb hown (ht _ kj_X8_151) dX8_toBinary_59 ?_
          refine W.lcmp hx hb dX8_toBinary_62 ?_
          refine lv_if_gt (tgt := 74) hx hb dX8_toBinary_63 (by decide) (fun c_7 => ?_) (fun c_7 => ?_)
          · skip
            rw [if_pos c_7] at hF
            rw [if_pos c_7] at hs
            refine lv_iconst (v := 1) hx hb dX8_toBinary_74 (by decide) ?_
            refine lv_goto (tgt := 79) hx hb dX8_toBinary_75 (by decide) ?_
            refine lv_bipush (v := 9) hx hb dX8_toBinary_79 (by decide) ?_
            refine q_Vv (rest := []) (c_X8_wrong l D a_this a_this_bytes a_this_keys a_this_reg a_this_card a_this_filled a_this_taken a_this_line a_this_one a_this_two o_this_L31 true 9) cv_X8_wrong hx hb hml hown ht hN hK hA hP hD hS hl.1 (km_X8_42) ⟨Nat.le_of_ble_eq_true rfl, Nat.le_of_ble_eq_true rfl⟩ rfl rfl [0] (by decide) rfl [] rfl (fun _ => rfl) (ci := 8) rfl rfl rfl rfl rfl (Nat.le_of_ble_eq_true rfl) dX8_toBinary_81 ⟨Nat.zero_le _, Nat.zero_le _⟩ (fun w_8 H locs hw hP hD hS => ?_)
            have hP : va_P D vwCl [(a_this, oX8 a_this_bytes a_this_keys a_this_reg a_this_card a_this_filled a_this_taken a_this_line a_this_one a_this_two w_8), (a_this_bytes, .inl (k_this_bytes, 2048, .inl r_this_bytes)), (a_this_one, .inl (k_this_one, 40, .inl r_this_one_L31)), (a_this_reg, .inl (k_this_reg, 16, .inl r_this_reg))] H := hP
            have hD : va_D A [(a_this, oX8 a_this_bytes a_this_keys a_this_reg a_this_card a_this_filled a_this_taken a_this_line a_this_one a_this_two w_8), (a_this_bytes, .inl (k_this_bytes, 2048, .inl r_this_bytes)), (a_this_one, .inl (k_this_one, 40, .inl r_this_one_L31)), (a_this_reg, .inl (k_this_reg, 16, .inl r_this_reg))] := hD
            rw [q_let_of hw] at hF
            rw [q_let_of hw] at hs
            refine lv_aload_n hx hb dX8_toBinary_84 rfl (lv_at hl 2 rfl) ?_
            refine gf_X8_38 (v := .int w_8.2.2.2.2.2.2.2.2.1) hx hb hown ht hK hP 0 rfl rfl dX8_toBinary_85 ?_
            refine lv_if_ne (tgt := 99) hx hb dX8_toBinary_88 (by decide) (fun c_9 => ?_) (fun c_9 => ?_)
            · skip
              rw [if_neg c_9] at hF
              rw [if_neg c_9] at hs
              exact hQ (w_8, r_this_one_L31, r_this_reg) _ _ _ _ dX8_toBinary_99 hF.symm hP hD hS
            · skip
              rw [if_pos c_9] at hF
              rw [if_pos c_9] at hs
              refine lv_aload_n hx hb dX8_toBinary_91 rfl (lv_at hl 2 rfl) ?_
              refine gf_X8_16 (v := .ref a_this_reg) hx hb hown ht hK hP 0 rfl rfl dX8_toBinary_92 ?_
              refine lv_iload_n hx hb dX8_toBinary_95 rfl (lv_at hl 3 rfl) ?_
              refine lv_lload_n hx hb dX8_toBinary_96 rfl (lv_at hl 1 rfl) ?_
              refine lv_l2i hx hb dX8_toBinary_97 rfl ?_
              have hi_10 := hs
              refine va_iast hx hb hK hP hD hS 3 2 rfl rfl hi_10 dX8_toBinary_98 (fun H locs hP hD hS => ?_)
              have hP : va_P D vwCl [(a_this, oX8 a_this_bytes a_this_keys a_this_reg a_this_card a_this_filled a_this_taken a_this_line a_this_one a_this_two w_8), (a_this_bytes, .inl (k_this_bytes, 2048, .inl r_this_bytes)), (a_this_one, .inl (k_this_one, 40, .inl r_this_one_L31)), (a_this_reg, .inl (k_this_reg, 16, .inl (upd r_this_reg p1.toNatClampNeg x3.toInt32)))] H := hP
              have hD : va_D A [(a_this, oX8 a_this_bytes a_this_keys a_this_reg a_this_card a_this_filled a_this_taken a_this_line a_this_one a_this_two w_8), (a_this_bytes, .inl (k_this_bytes, 2048, .inl r_this_bytes)), (a_this_one, .inl (k_this_one, 40, .inl r_this_one_L31)), (a_this_reg, .inl (k_this_reg, 16, .inl (upd r_this_reg p1.toNatClampNeg x3.toInt32)))] := hD
              exact hQ (w_8, r_this_one_L31, (upd r_this_reg p1.toNatClampNeg x3.toInt32)) _ _ _ _ dX8_toBinary_99 hF.symm hP hD hS
          · skip
            rw [if_neg c_7] at hF
            rw [if_neg c_7] at hs
            refine lv_lload_n hx hb dX8_toBinary_66 rfl (lv_at hl 1 rfl) ?_
            refine lv_ldc2 (v := (-2147483648)) hx hb hown (ht _ kj_X8_153) dX8_toBinary_67 ?_
            refine W.lcmp hx hb dX8_toBinary_70 ?_
            refine lv_if_ge (tgt := 78) hx hb dX8_toBinary_71 (by decide) (fun c_11 => ?_) (fun c_11 => ?_)
            · skip
              rw [if_pos c_11] at hF
              rw [if_pos c_11] at hs
              refine lv_iconst (v := 0) hx hb dX8_toBinary_78 (by decide) ?_
              refine lv_bipush (v := 9) hx hb dX8_toBinary_79 (by decide) ?_
              refine q_Vv (rest := []) (c_X8_wrong l D a_this a_this_bytes a_this_keys a_this_reg a_this_card a_this_filled a_this_taken a_this_line a_this_one a_this_two o_this_L31 false 9) cv_X8_wrong hx hb hml hown ht hN hK hA hP hD hS hl.1 (km_X8_42) ⟨Nat.le_of_ble_eq_true rfl, Nat.le_of_ble_eq_true rfl⟩ rfl rfl [0] (by decide) rfl [] rfl (fun _ => rfl) (ci := 8) rfl rfl rfl rfl rfl (Nat.le_of_ble_eq_true rfl) dX8_toBinary_81 ⟨Nat.zero_le _, Nat.zero_le _⟩ (fun w_12 H locs hw hP hD hS => ?_)
              have hP : va_P D vwCl [(a_this, oX8 a_this_bytes a_this_keys a_this_reg a_this_card a_this_filled a_this_taken a_this_line a_this_one a_this_two w_12), (a_this_bytes, .inl (k_this_bytes, 2048, .inl r_this_bytes)), (a_this_one, .inl (k_this_one, 40, .inl r_this_one_L31)), (a_this_reg, .inl (k_this_reg, 16, .inl r_this_reg))] H := hP
              have hD : va_D A [(a_this, oX8 a_this_bytes a_this_keys a_this_reg a_this_card a_this_filled a_this_taken a_this_line a_this_one a_this_two w_12), (a_this_bytes, .inl (k_this_bytes, 2048, .inl r_this_bytes)), (a_this_one, .inl (k_this_one, 40, .inl r_this_one_L31)), (a_this_reg, .inl (k_this_reg, 16, .inl r_this_reg))] := hD
              rw [q_let_of hw] at hF
              rw [q_let_of hw] at hs
              refine lv_aload_n hx hb dX8_toBinary_84 rfl (lv_at hl 2 rfl) ?_
              refine gf_X8_38 (v := .int w_12.2.2.2.2.2.2.2.2.1) hx hb hown ht hK hP 0 rfl rfl dX8_toBinary_85 ?_
              refine lv_if_ne (tgt := 99) hx hb dX8_toBinary_88 (by decide) (fun c_13 => ?_) (fun c_13 => ?_)
              · skip
                rw [if_neg c_13] at hF
                rw [if_neg c_13] at hs
                exact hQ (w_12, r_this_one_L31, r_this_reg) _ _ _ _ dX8_toBinary_99 hF.symm hP hD hS
              · skip
                rw [if_pos c_13] at hF
                rw [if_pos c_13] at hs
                refine lv_aload_n hx hb dX8_toBinary_91 rfl (lv_at hl 2 rfl) ?_
                refine gf_X8_16 (v := .ref a_this_reg) hx hb hown ht hK hP 0 rfl rfl dX8_toBinary_92 ?_
                refine lv_iload_n hx hb dX8_toBinary_95 rfl (lv_at hl 3 rfl) ?_
                refine lv_lload_n hx hb dX8_toBinary_96 rfl (lv_at hl 1 rfl) ?_
                refine lv_l2i hx hb dX8_toBinary_97 rfl ?_
                have hi_14 := hs
                refine va_iast hx hb hK hP hD hS 3 2 rfl rfl hi_14 dX8_toBinary_98 (fun H locs hP hD hS => ?_)
                have hP : va_P D vwCl [(a_this, oX8 a_this_bytes a_this_keys a_this_reg a_this_card a_this_filled a_this_taken a_this_line a_this_one a_this_two w_12), (a_this_bytes, .inl (k_this_bytes, 2048, .inl r_this_bytes)), (a_this_one, .inl (k_this_one, 40, .inl r_this_one_L31)), (a_this_reg, .inl (k_this_reg, 16, .inl (upd r_this_reg p1.toNatClampNeg x3.toInt32)))] H := hP
                have hD : va_D A [(a_this, oX8 a_this_bytes a_this_keys a_this_reg a_this_card a_this_filled a_this_taken a_this_line a_this_one a_this_two w_12), (a_this_bytes, .inl (k_this_bytes, 2048, .inl r_this_bytes)), (a_this_one, .inl (k_this_one, 40, .inl r_this_one_L31)), (a_this_reg, .inl (k_this_reg, 16, .inl (upd r_this_reg p1.toNatClampNeg x3.toInt32)))] := hD
                exact hQ (w_12, r_this_one_L31, (upd r_this_reg p1.toNatClampNeg x3.toInt32)) _ _ _ _ dX8_toBinary_99 hF.symm hP hD hS
            · skip
              rw [if_neg c_11] at hF
              rw [if_neg c_11] at hs
              refine lv_iconst (v := 1) hx hb dX8_toBinary_74 (by decide) ?_
              refine lv_goto (tgt := 79) hx hb dX8_toBinary_75 (by decide) ?_
              refine lv_bipush (v := 9) hx hb dX8_toBinary_79 (by decide) ?_
              refine q_Vv (rest := []) (c_X8_wrong l D a_this a_this_bytes a_this_keys a_this_reg a_this_card a_this_filled a_this_taken a_this_line a_this_one a_this_two o_this_L31 true 9) cv_X8_wrong hx hb hml hown ht hN hK hA hP hD hS hl.1 (km_X8_42) ⟨Nat.le_of_ble_eq_true rfl, Nat.le_of_ble_eq_true rfl⟩ rfl rfl [0] (by decide) rfl [] rfl (fun _ => rfl) (ci := 8) rfl rfl rfl rfl rfl (Nat.le_of_ble_eq_true rfl) dX8_toBinary_81 ⟨Nat.zero_le _, Nat.zero_le _⟩ (fun w_15 H locs hw hP hD hS => ?_)
              have hP : va_P D vwCl [(a_this, oX8 a_this_bytes a_this_keys a_this_reg a_this_card a_this_filled a_this_taken a_this_line a_this_one a_this_two w_15), (a_this_bytes, .inl (k_this_bytes, 2048, .inl r_this_bytes)), (a_this_one, .inl (k_this_one, 40, .inl r_this_one_L31)), (a_this_reg, .inl (k_this_reg, 16, .inl r_this_reg))] H := hP
              have hD : va_D A [(a_this, oX8 a_this_bytes a_this_keys a_this_reg a_this_card a_this_filled a_this_taken a_this_line a_this_one a_this_two w_15), (a_this_bytes, .inl (k_this_bytes, 2048, .inl r_this_bytes)), (a_this_one, .inl (k_this_one, 40, .inl r_this_one_L31)), (a_this_reg, .inl (k_this_reg, 16, .inl r_this_reg))] := hD
              rw [q_let_of hw] at hF
              rw [q_let_of hw] at hs
              refine lv_aload_n hx hb dX8_toBinary_84 rfl (lv_at hl 2 rfl) ?_
              refine gf_X8_38 (v := .int w_15.2.2.2.2.2.2.2.2.1) hx hb hown ht hK hP 0 rfl rfl dX8_toBinary_85 ?_
              refine lv_if_ne (tgt := 99) hx hb dX8_toBinary_88 (by decide) (fun c_16 => ?_) (fun c_16 => ?_)
              · skip
                rw [if_neg c_16] at hF
                rw [if_neg c_16] at hs
                exact hQ (w_15, r_this_one_L31, r_this_reg) _ _ _ _ dX8_toBinary_99 hF.symm hP hD hS
              · skip
                rw [if_pos c_16] at hF
                rw [if_pos c_16] at hs
                refine lv_aload_n hx hb dX8_toBinary_91 rfl (lv_at hl 2 rfl) ?_
                refine gf_X8_16 (v := .ref a_this_reg) hx hb hown ht hK hP 0 rfl rfl dX8_toBinary_92 ?_
                refine lv_iload_n hx hb dX8_toBinary_95 rfl (lv_at hl 3 rfl) ?_
                refine lv_lload_n hx hb dX8_toBinary_96 rfl (lv_at hl 1 rfl) ?_
                refine lv_l2i hx hb dX8_toBinary_97 rfl ?_
                have hi_17 := hs
                refine va_iast hx hb hK hP hD hS 3 2 rfl rfl hi_17 dX8_toBinary_98 (fun H locs hP hD hS => ?_)
                have hP : va_P D vwCl [(a_this, oX8 a_this_bytes a_this_keys a_this_reg a_this_card a_this_filled a_this_taken a_this_line a_this_one a_this_two w_15), (a_this_bytes, .inl (k_this_bytes, 2048, .inl r_this_bytes)), (a_this_one, .inl (k_this_one, 40, .inl r_this_one_L31)), (a_this_reg, .inl (k_this_reg, 16, .inl (upd r_this_reg p1.toNatClampNeg x3.toInt32)))] H := hP
                have hD : va_D A [(a_this, oX8 a_this_bytes a_this_keys a_this_reg a_this_card a_this_filled a_this_taken a_this_line a_this_one a_this_two w_15), (a_this_bytes, .inl (k_this_bytes, 2048, .inl r_this_bytes)), (a_this_one, .inl (k_this_one, 40, .inl r_this_one_L31)), (a_this_reg, .inl (k_this_reg, 16, .inl (upd r_this_reg p1.toNatClampNeg x3.toInt32)))] := hD
                exact hQ (w_15, r_this_one_L31, (upd r_this_reg p1.toNatClampNeg x3.toInt32)) _ _ _ _ dX8_toBinary_99 hF.symm hP hD hS
        · skip
          rw [if_neg c_6] at hF
          rw [if_neg c_6] at hs
          refine lv_ldc2 (v := 10) hx hb hown (ht _ kj_X8_184) dX8_toBinary_36 ?_
          refine lv_lload_n hx hb dX8_toBinary_39 rfl (lv_at hl 1 rfl) ?_
          refine lv_lmul hx hb dX8_toBinary_40 ?_
          refine lv_aload_n hx hb dX8_toBinary_41 rfl (lv_at hl 2 rfl) ?_
          refine gf_X8_31 (v := .ref a_this_one) hx hb hown ht hK hP 0 rfl rfl dX8_toBinary_42 ?_
          refine lv_iload hx hb dX8_toBinary_45 (lv_at hl 0 rfl) ?_
          obtain ⟨hi_18, hs⟩ := hs
          refine va_iald hx hb hK hP 2 1 rfl rfl hi_18 dX8_toBinary_47 ?_
          refine lv_i2l hx hb dX8_toBinary_48 rfl ?_
          refine lv_ladd hx hb dX8_toBinary_49 ?_
          refine lv_lstore_n (lv' := [(3, .long (((10 : Int64) * x3) + ((r_this_one_L31 x5.toNatClampNeg).toInt64))), (5, .int x5), (0, .ref a_this), (1, .int p1), (2, .int p2)]) hx hb dX8_toBinary_50 rfl hl (by decide) rfl (fun ls hl => ?_)
          refine lv_iinc (v := (x5 + ((-1) : Int32))) (lv' := [(5, .int (x5 + ((-1) : Int32))), (3, .long (((10 : Int64) * x3) + ((r_this_one_L31 x5.toNatClampNeg).toInt64))), (0, .ref a_this), (1, .int p1), (2, .int p2)]) hx hb dX8_toBinary_51 hl (k := 1) rfl rfl (by decide) rfl (fun ls hl => ?_)
          refine lv_goto (tgt := 31) hx hb dX8_toBinary_54 (by decide) ?_
          exact ih o_this_L31 r_this_one_L31 (x5 + ((-1) : Int32)) (((10 : Int64) * x3) + ((r_this_one_L31 x5.toNatClampNeg).toInt64)) _ _ _ (by first | exact q_dn hm c_3 | exact q_dn hm c_6)  hP hD hS (lv_sub hl [0, 1, 2, 3, 4] rfl) hF hs
    exact L31 (((14 : Int32).toInt + 1).toNat + 1) w_4 w_2.2 14 0 _ _ _ (Nat.lt_succ_self _)  hP hD hS (lv_sub hl [0, 1, 2, 3, 4] rfl) hF hs
  · have c_3 : ¬ w_2.1 = true := by rw [(bI_eq0 _).mp c_3]; decide
    rw [if_neg c_3] at hF
    rw [if_neg c_3] at hs
    refine lv_iconst (v := 1) hx hb dX8_toBinary_15 (by decide) ?_
    refine lv_goto (tgt := 20) hx hb dX8_toBinary_16 (by decide) ?_
    refine lv_bipush (v := 7) hx hb dX8_toBinary_20 (by decide) ?_
    refine q_Vv (rest := []) (c_X8_wrong l D a_this a_this_bytes a_this_keys a_this_reg a_this_card a_this_filled a_this_taken a_this_line a_this_one a_this_two o_this true 7) cv_X8_wrong hx hb hml hown ht hN hK hA hP hD hS hl.1 (km_X8_42) ⟨Nat.le_of_ble_eq_true rfl, Nat.le_of_ble_eq_true rfl⟩ rfl rfl [0] (by decide) rfl [] rfl (fun _ => rfl) (ci := 8) rfl rfl rfl rfl rfl (Nat.le_of_ble_eq_true rfl) dX8_toBinary_22 ⟨Nat.zero_le _, Nat.zero_le _⟩ (fun w_19 H locs hw hP hD hS => ?_)
    have hP : va_P D vwCl [(a_this, oX8 a_this_bytes a_this_keys a_this_reg a_this_card a_this_filled a_this_taken a_this_line a_this_one a_this_two w_19), (a_this_bytes, .inl (k_this_bytes, 2048, .inl r_this_bytes)), (a_this_one, .inl (k_this_one, 40, .inl w_2.2)), (a_this_reg, .inl (k_this_reg, 16, .inl r_this_reg))] H := hP
    have hD : va_D A [(a_this, oX8 a_this_bytes a_this_keys a_this_reg a_this_card a_this_filled a_this_taken a_this_line a_this_one a_this_two w_19), (a_this_bytes, .inl (k_this_bytes, 2048, .inl r_this_bytes)), (a_this_one, .inl (k_this_one, 40, .inl w_2.2)), (a_this_reg, .inl (k_this_reg, 16, .inl r_this_reg))] := hD
    rw [q_let_of hw] at hF
    rw [q_let_of hw] at hs
    refine lv_lconst (v := 0) hx hb dX8_toBinary_25 (by decide) ?_
    refine lv_lstore_n (lv' := [(3, .long 0), (0, .ref a_this), (1, .int p1), (2, .int p2)]) hx hb dX8_toBinary_26 rfl hl (by decide) rfl (fun ls hl => ?_)
    refine lv_bipush (v := 14) hx hb dX8_toBinary_27 (by decide) ?_
    refine lv_istore (lv' := [(5, .int 14), (3, .long 0), (0, .ref a_this), (1, .int p1), (2, .int p2)]) hx hb dX8_toBinary_29 hl (by decide) rfl (fun ls hl => ?_)
    have L31 : ∀ (fuel : Nat) (o_this_L31 : Int32 × Int32 × Int32 × Int32 × Bool × Bool × Int32 × Int32 × Int32 × Int32 × Bool × Bool × Bool × Int32 × Int32 × Int32 × Int32 × Int32 × Int32 × Int32 × Int32 × Int32 × Int32 × Int32 × Int32) (r_this_one_L31 : Nat → Int32) (x5 : Int32) (x3 : Int64) (H : Heap) (locs : List Loc) (ls : Array Slot), ((x5 : Int32).toInt + 1).toNat < fuel → va_P D vwCl [(a_this, oX8 a_this_bytes a_this_keys a_this_reg a_this_card a_this_filled a_this_taken a_this_line a_this_one a_this_two o_this_L31), (a_this_bytes, .inl (k_this_bytes, 2048, .inl r_this_bytes)), (a_this_one, .inl (k_this_one, 40, .inl r_this_one_L31)), (a_this_reg, .inl (k_this_reg, 16, .inl r_this_reg))] H → va_D A [(a_this, oX8 a_this_bytes a_this_keys a_this_reg a_this_card a_this_filled a_this_taken a_this_line a_this_one a_this_two o_this_L31), (a_this_bytes, .inl (k_this_bytes, 2048, .inl r_this_bytes)), (a_this_one, .inl (k_this_one, 40, .inl r_this_one_L31)), (a_this_reg, .inl (k_this_reg, 16, .inl r_this_reg))] → va_S A s.heap H locs → lv_has ls 6 [(5, .int x5), (3, .long x3), (0, .ref a_this), (1, .int p1), (2, .int p2)] → f_X8_toBinary_L31b r_this_reg p1 fuel o_this_L31 r_this_one_L31 x5 x3 = F → s_X8_toBinary_L31b p1 fuel o_this_L31 r_this_one_L31 x5 x3 → W p l e ({ frames := 2, cells := 0, slots := 0, locals := 51 } : Room) s m ([.ref a_this, .int p1, .int p2] : List Value).toArray below meth c H locs 0 0 Q (F0 m 31 ls []) := by
      intro fuel
      induction fuel with
      | zero => intro o_this_L31 r_this_one_L31 x5 x3 H locs ls hm; exact absurd hm (Nat.not_lt_zero _)
      | succ fuel ih =>
        intro o_this_L31 r_this_one_L31 x5 x3 H locs ls hm  hP hD hS hl hF hs
        rw [f_X8_toBinary_L31b] at hF
        rw [s_X8_toBinary_L31b] at hs
        skip
        refine lv_iload hx hb dX8_toBinary_31 (lv_at hl 0 rfl) ?_
        refine lv_if_lt (tgt := 57) hx hb dX8_toBinary_33 (by decide) (fun c_21 => ?_) (fun c_21 => ?_)
        · skip
          rw [if_pos c_21] at hF
          rw [if_pos c_21] at hs
          refine lv_aload_n hx hb dX8_toBinary_57 rfl (lv_at hl 2 rfl) ?_
          refine lv_lload_n hx hb dX8_toBinary_58 rfl (lv_at hl 1 rfl) ?_
          refine lv_ldc2 (v := 2147483647) hx hb hown (ht _ kj_X8_151) dX8_toBinary_59 ?_
          refine W.lcmp hx hb dX8_toBinary_62 ?_
          refine lv_if_gt (tgt := 74) hx hb dX8_toBinary_63 (by decide) (fun c_22 => ?_) (fun c_22 => ?_)
          · skip
            rw [if_pos c_22] at hF
            rw [if_pos c_22] at hs
            refine lv_iconst (v := 1) hx hb dX8_toBinary_74 (by decide) ?_
            refine lv_goto (tgt := 79) hx hb dX8_toBinary_75 (by decide) ?_
            refine lv_bipush (v := 9) hx hb dX8_toBinary_79 (by decide) ?_
            refine q_Vv (rest := []) (c_X8_wrong l D a_this a_this_bytes a_this_keys a_this_reg a_this_card a_this_filled a_this_taken a_this_line a_this_one a_this_two o_this_L31 true 9) cv_X8_wrong hx hb hml hown ht hN hK hA hP hD hS hl.1 (km_X8_42) ⟨Nat.le_of_ble_eq_true rfl, Nat.le_of_ble_eq_true rfl⟩ rfl rfl [0] (by decide) rfl [] rfl (fun _ => rfl) (ci := 8) rfl rfl rfl rfl rfl (Nat.le_of_ble_eq_true rfl) dX8_toBinary_81 ⟨Nat.zero_le _, Nat.zero_le _⟩ (fun w_23 H locs hw hP hD hS => ?_)
            have hP : va_P D vwCl [(a_this, oX8 a_this_bytes a_this_keys a_this_reg a_this_card a_this_filled a_this_taken a_this_line a_this_one a_this_two w_23), (a_this_bytes, .inl (k_this_bytes, 2048, .inl r_this_bytes)), (a_this_one, .inl (k_this_one, 40, .inl r_this_one_L31)), (a_this_reg, .inl (k_this_reg, 16, .inl r_this_reg))] H := hP
            have hD : va_D A [(a_this, oX8 a_this_bytes a_this_keys a_this_reg a_this_card a_this_filled a_this_taken a_this_line a_this_one a_this_two w_23), (a_this_bytes, .inl (k_this_bytes, 2048, .inl r_this_bytes)), (a_this_one, .inl (k_this_one, 40, .inl r_this_one_L31)), (a_this_reg, .inl (k_this_reg, 16, .inl r_this_reg))] := hD
            rw [q_let_of hw] at hF
            rw [q_let_of hw] at hs
            refine lv_aload_n hx hb dX8_toBinary_84 rfl (lv_at hl 2 rfl) ?_
            refine gf_X8_38 (v := .int w_23.2.2.2.2.2.2.2.2.1) hx hb hown ht hK hP 0 rfl rfl dX8_toBinary_85 ?_
            refine lv_if_ne (tgt := 99) hx hb dX8_toBinary_88 (by decide) (fun c_24 => ?_) (fun c_24 => ?_)
            · skip
              rw [if_neg c_24] at hF
              rw [if_neg c_24] at hs
              exact hQ (w_23, r_this_one_L31, r_this_reg) _ _ _ _ dX8_toBinary_99 hF.symm hP hD hS
            · skip
              rw [if_pos c_24] at hF
              rw [if_pos c_24] at hs
              refine lv_aload_n hx hb dX8_toBinary_91 rfl (lv_at hl 2 rfl) ?_
              refine gf_X8_16 (v := .ref a_this_reg) hx hb hown ht hK hP 0 rfl rfl dX8_toBinary_92 ?_
              refine lv_iload_n hx hb dX8_toBinary_95 rfl (lv_at hl 3 rfl) ?_
              refine lv_lload_n hx hb dX8_toBinary_96 rfl (lv_at hl 1 rfl) ?_
              refine lv_l2i hx hb dX8_toBinary_97 rfl ?_
              have hi_25 := hs
              refine va_iast hx hb hK hP hD hS 3 2 rfl rfl hi_25 dX8_toBinary_98 (fun H locs hP hD hS => ?_)
              have hP : va_P D vwCl [(a_this, oX8 a_this_bytes a_this_keys a_this_reg a_this_card a_this_filled a_this_taken a_this_line a_this_one a_this_two w_23), (a_this_bytes, .inl (k_this_bytes, 2048, .inl r_this_bytes)), (a_this_one, .inl (k_this_one, 40, .inl r_this_one_L31)), (a_this_reg, .inl (k_this_reg, 16, .inl (upd r_this_reg p1.toNatClampNeg x3.toInt32)))] H := hP
              have hD : va_D A [(a_this, oX8 a_this_bytes a_this_keys a_this_reg a_this_card a_this_filled a_this_taken a_this_line a_this_one a_this_two w_23), (a_this_bytes, .inl (k_this_bytes, 2048, .inl r_this_bytes)), (a_this_one, .inl (k_this_one, 40, .inl r_this_one_L31)), (a_this_reg, .inl (k_this_reg, 16, .inl (upd r_this_reg p1.toNatClampNeg x3.toInt32)))] := hD
              exact hQ (w_23, r_this_one_L31, (upd r_this_reg p1.toNatClampNeg x3.toInt32)) _ _ _ _ dX8_toBinary_99 hF.symm hP hD hS
          · skip
            rw [if_neg c_22] at hF
            rw [if_neg c_22] at hs
            refine lv_lload_n hx hb dX8_toBinary_66 rfl (lv_at hl 1 rfl) ?_
            refine lv_ldc2 (v := (-2147483648)) hx hb hown (ht _ kj_X8_153) dX8_toBinary_67 ?_
            refine W.lcmp hx hb dX8_toBinary_70 ?_
            refine lv_if_ge (tgt := 78) hx hb dX8_toBinary_71 (by decide) (fun c_26 => ?_) (fun c_26 => ?_)
            · skip
              rw [if_pos c_26] at hF
              rw [if_pos c_26] at hs
              refine lv_iconst (v := 0) hx hb dX8_toBinary_78 (by decide) ?_
              refine lv_bipush (v := 9) hx hb dX8_toBinary_79 (by decide) ?_
              refine q_Vv (rest := []) (c_X8_wrong l D a_this a_this_bytes a_this_keys a_this_reg a_this_card a_this_filled a_this_taken a_this_line a_this_one a_this_two o_this_L31 false 9) cv_X8_wrong hx hb hml hown ht hN hK hA hP hD hS hl.1 (km_X8_42) ⟨Nat.le_of_ble_eq_true rfl, Nat.le_of_ble_eq_true rfl⟩ rfl rfl [0] (by decide) rfl [] rfl (fun _ => rfl) (ci := 8) rfl rfl rfl rfl rfl (Nat.le_of_ble_eq_true rfl) dX8_toBinary_81 ⟨Nat.zero_le _, Nat.zero_le _⟩ (fun w_27 H locs hw hP hD hS => ?_)
              have hP : va_P D vwCl [(a_this, oX8 a_this_bytes a_this_keys a_this_reg a_this_card a_this_filled a_this_taken a_this_line a_this_one a_this_two w_27), (a_this_bytes, .inl (k_this_bytes, 2048, .inl r_this_bytes)), (a_this_one, .inl (k_this_one, 40, .inl r_this_one_L31)), (a_this_reg, .inl (k_this_reg, 16, .inl r_this_reg))] H := hP
              have hD : va_D A [(a_this, oX8 a_this_bytes a_this_keys a_this_reg a_this_card a_this_filled a_this_taken a_this_line a_this_one a_this_two w_27), (a_this_bytes, .inl (k_this_bytes, 2048, .inl r_this_bytes)), (a_this_one, .inl (k_this_one, 40, .inl r_this_one_L31)), (a_this_reg, .inl (k_this_reg, 16, .inl r_this_reg))] := hD
              rw [q_let_of hw] at hF
              rw [q_let_of hw] at hs
              refine lv_aload_n hx hb dX8_toBinary_84 rfl (lv_at hl 2 rfl) ?_
              refine gf_X8_38 (v := .int w_27.2.2.2.2.2.2.2.2.1) hx hb hown ht hK hP 0 rfl rfl dX8_toBinary_85 ?_
              refine lv_if_ne (tgt := 99) hx hb dX8_toBinary_88 (by decide) (fun c_28 => ?_) (fun c_28 => ?_)
              · skip
                rw [if_neg c_28] at hF
                rw [if_neg c_28] at hs
                exact hQ (w_27, r_this_one_L31, r_this_reg) _ _ _ _ dX8_toBinary_99 hF.symm hP hD hS
              · skip
                rw [if_pos c_28] at hF
                rw [if_pos c_28] at hs
                refine lv_aload_n hx hb dX8_toBinary_91 rfl (lv_at hl 2 rfl) ?_
                refine gf_X8_16 (v := .ref a_this_reg) hx hb hown ht hK hP 0 rfl rfl dX8_toBinary_92 ?_
                refine lv_iload_n hx hb dX8_toBinary_95 rfl (lv_at hl 3 rfl) ?_
                refine lv_lload_n hx hb dX8_toBinary_96 rfl (lv_at hl 1 rfl) ?_
                refine lv_l2i hx hb dX8_toBinary_97 rfl ?_
                have hi_29 := hs
                refine va_iast hx hb hK hP hD hS 3 2 rfl rfl hi_29 dX8_toBinary_98 (fun H locs hP hD hS => ?_)
                have hP : va_P D vwCl [(a_this, oX8 a_this_bytes a_this_keys a_this_reg a_this_card a_this_filled a_this_taken a_this_line a_this_one a_this_two w_27), (a_this_bytes, .inl (k_this_bytes, 2048, .inl r_this_bytes)), (a_this_one, .inl (k_this_one, 40, .inl r_this_one_L31)), (a_this_reg, .inl (k_this_reg, 16, .inl (upd r_this_reg p1.toNatClampNeg x3.toInt32)))] H := hP
                have hD : va_D A [(a_this, oX8 a_this_bytes a_this_keys a_this_reg a_this_card a_this_filled a_this_taken a_this_line a_this_one a_this_two w_27), (a_this_bytes, .inl (k_this_bytes, 2048, .inl r_this_bytes)), (a_this_one, .inl (k_this_one, 40, .inl r_this_one_L31)), (a_this_reg, .inl (k_this_reg, 16, .inl (upd r_this_reg p1.toNatClampNeg x3.toInt32)))] := hD
                exact hQ (w_27, r_this_one_L31, (upd r_this_reg p1.toNatClampNeg x3.toInt32)) _ _ _ _ dX8_toBinary_99 hF.symm hP hD hS
            · skip
              rw [if_neg c_26] at hF
              rw [if_neg c_26] at hs
              refine lv_iconst (v := 1) hx hb dX8_toBinary_74 (by decide) ?_
              refine lv_goto (tgt := 79) hx hb dX8_toBinary_75 (by decide) ?_
              refine lv_bipush (v := 9) hx hb dX8_toBinary_79 (by decide) ?_
              refine q_Vv (rest := []) (c_X8_wrong l D a_this a_this_bytes a_this_keys a_this_reg a_this_card a_this_filled a_this_taken a_this_line a_this_one a_this_two o_this_L31 true 9) cv_X8_wrong hx hb hml hown ht hN hK hA hP hD hS hl.1 (km_X8_42) ⟨Nat.le_of_ble_eq_true rfl, Nat.le_of_ble_eq_true rfl⟩ rfl rfl [0] (by decide) rfl [] rfl (fun _ => rfl) (ci := 8) rfl rfl rfl rfl rfl (Nat.le_of_ble_eq_true rfl) dX8_toBinary_81 ⟨Nat.zero_le _, Nat.zero_le _⟩ (fun w_30 H locs hw hP hD hS => ?_)
              have hP : va_P D vwCl [(a_this, oX8 a_this_bytes a_this_keys a_this_reg a_this_card a_this_filled a_this_taken a_this_line a_this_one a_this_two w_30), (a_this_bytes, .inl (k_this_bytes, 2048, .inl r_this_bytes)), (a_this_one, .inl (k_this_one, 40, .inl r_this_one_L31)), (a_this_reg, .inl (k_this_reg, 16, .inl r_this_reg))] H := hP
              have hD : va_D A [(a_this, oX8 a_this_bytes a_this_keys a_this_reg a_this_card a_this_filled a_this_taken a_this_line a_this_one a_this_two w_30), (a_this_bytes, .inl (k_this_bytes, 2048, .inl r_this_bytes)), (a_this_one, .inl (k_this_one, 40, .inl r_this_one_L31)), (a_this_reg, .inl (k_this_reg, 16, .inl r_this_reg))] := hD
              rw [q_let_of hw] at hF
              rw [q_let_of hw] at hs
              refine lv_aload_n hx hb dX8_toBinary_84 rfl (lv_at hl 2 rfl) ?_
              refine gf_X8_38 (v := .int w_30.2.2.2.2.2.2.2.2.1) hx hb hown ht hK hP 0 rfl rfl dX8_toBinary_85 ?_
              refine lv_if_ne (tgt := 99) hx hb dX8_toBinary_88 (by decide) (fun c_31 => ?_) (fun c_31 => ?_)
              · skip
                rw [if_neg c_31] at hF
                rw [if_neg c_31] at hs
                exact hQ (w_30, r_this_one_L31, r_this_reg) _ _ _ _ dX8_toBinary_99 hF.symm hP hD hS
              · skip
                rw [if_pos c_31] at hF
                rw [if_pos c_31] at hs
                refine lv_aload_n hx hb dX8_toBinary_91 rfl (lv_at hl 2 rfl) ?_
                refine gf_X8_16 (v := .ref a_this_reg) hx hb hown ht hK hP 0 rfl rfl dX8_toBinary_92 ?_
                refine lv_iload_n hx hb dX8_toBinary_95 rfl (lv_at hl 3 rfl) ?_
                refine lv_lload_n hx hb dX8_toBinary_96 rfl (lv_at hl 1 rfl) ?_
                refine lv_l2i hx hb dX8_toBinary_97 rfl ?_
                have hi_32 := hs
                refine va_iast hx hb hK hP hD hS 3 2 rfl rfl hi_32 dX8_toBinary_98 (fun H locs hP hD hS => ?_)
                have hP : va_P D vwCl [(a_this, oX8 a_this_bytes a_this_keys a_this_reg a_this_card a_this_filled a_this_taken a_this_line a_this_one a_this_two w_30), (a_this_bytes, .inl (k_this_bytes, 2048, .inl r_this_bytes)), (a_this_one, .inl (k_this_one, 40, .inl r_this_one_L31)), (a_this_reg, .inl (k_this_reg, 16, .inl (upd r_this_reg p1.toNatClampNeg x3.toInt32)))] H := hP
                have hD : va_D A [(a_this, oX8 a_this_bytes a_this_keys a_this_reg a_this_card a_this_filled a_this_taken a_this_line a_this_one a_this_two w_30), (a_this_bytes, .inl (k_this_bytes, 2048, .inl r_this_bytes)), (a_this_one, .inl (k_this_one, 40, .inl r_this_one_L31)), (a_this_reg, .inl (k_this_reg, 16, .inl (upd r_this_reg p1.toNatClampNeg x3.toInt32)))] := hD
                exact hQ (w_30, r_this_one_L31, (upd r_this_reg p1.toNatClampNeg x3.toInt32)) _ _ _ _ dX8_toBinary_99 hF.symm hP hD hS
        · skip
          rw [if_neg c_21] at hF
          rw [if_neg c_21] at hs
          refine lv_ldc2 (v := 10) hx hb hown (ht _ kj_X8_184) dX8_toBinary_36 ?_
          refine lv_lload_n hx hb dX8_toBinary_39 rfl (lv_at hl 1 rfl) ?_
          refine lv_lmul hx hb dX8_toBinary_40 ?_
          refine lv_aload_n hx hb dX8_toBinary_41 rfl (lv_at hl 2 rfl) ?_
          refine gf_X8_31 (v := .ref a_this_one) hx hb hown ht hK hP 0 rfl rfl dX8_toBinary_42 ?_
          refine lv_iload hx hb dX8_toBinary_45 (lv_at hl 0 rfl) ?_
          obtain ⟨hi_33, hs⟩ := hs
          refine va_iald hx hb hK hP 2 1 rfl rfl hi_33 dX8_toBinary_47 ?_
          refine lv_i2l hx hb dX8_toBinary_48 rfl ?_
          refine lv_ladd hx hb dX8_toBinary_49 ?_
          refine lv_lstore_n (lv' := [(3, .long (((10 : Int64) * x3) + ((r_this_one_L31 x5.toNatClampNeg).toInt64))), (5, .int x5), (0, .ref a_this), (1, .int p1), (2, .int p2)]) hx hb dX8_toBinary_50 rfl hl (by decide) rfl (fun ls hl => ?_)
          refine lv_iinc (v := (x5 + ((-1) : Int32))) (lv' := [(5, .int (x5 + ((-1) : Int32))), (3, .long (((10 : Int64) * x3) + ((r_this_one_L31 x5.toNatClampNeg).toInt64))), (0, .ref a_this), (1, .int p1), (2, .int p2)]) hx hb dX8_toBinary_51 hl (k := 1) rfl rfl (by decide) rfl (fun ls hl => ?_)
          refine lv_goto (tgt := 31) hx hb dX8_toBinary_54 (by decide) ?_
          exact ih o_this_L31 r_this_one_L31 (x5 + ((-1) : Int32)) (((10 : Int64) * x3) + ((r_this_one_L31 x5.toNatClampNeg).toInt64)) _ _ _ (by first | exact q_dn hm c_3 | exact q_dn hm c_21)  hP hD hS (lv_sub hl [0, 1, 2, 3, 4] rfl) hF hs
    exact L31 (((14 : Int32).toInt + 1).toNat + 1) w_19 w_2.2 14 0 _ _ _ (Nat.lt_succ_self _)  hP hD hS (lv_sub hl [0, 1, 2, 3, 4] rfl) hF hs
theorem cv_X8_toBinary : qV yX8_toBinary cX8_toBinary 6 none 2 := ⟨kc_X8_toBinary, kt_X8_toBinary, ks_X8_toBinary, kn_X8, by decide, by decide +kernel⟩
