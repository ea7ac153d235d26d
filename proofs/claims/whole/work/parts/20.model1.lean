
def f_X8_field_L5 (r_this_bytes : Nat → Int32) (p1 : Int32) (p2 : Int32) : Nat → Int32 → Int32 → Int32
  | 0, x4, x3 => 0
  | fuel + 1, x4, x3 => (if p2 ≤ x4 then x3 else f_X8_field_L5 r_this_bytes p1 p2 fuel (x4 + (1 : Int32)) ((x3 <<< ((8 : Int32) &&& 31)) ||| (r_this_bytes (p1 + x4).toNatClampNeg)))
def s_X8_field_L5 (r_this_bytes : Nat → Int32) (p1 : Int32) (p2 : Int32) : Nat → Int32 → Int32 → Prop
  | 0, _, _ => True
  | fuel + 1, x4, x3 => (if p2 ≤ x4 then True else (vp_in (p1 + x4) 2048 ∧ s_X8_field_L5 r_this_bytes p1 p2 fuel (x4 + (1 : Int32)) ((x3 <<< ((8 : Int32) &&& 31)) ||| (r_this_bytes (p1 + x4).toNatClampNeg))))
def f_X8_field (r_this_bytes : Nat → Int32) (p1 : Int32) (p2 : Int32) : Int32 := f_X8_field_L5 r_this_bytes p1 p2 (((p2 : Int32).toInt - (0 : Int32).toInt).toNat + 1) 0 0
def s_X8_field (r_this_bytes : Nat → Int32) (p1 : Int32) (p2 : Int32) : Prop := s_X8_field_L5 r_this_bytes p1 p2 (((p2 : Int32).toInt - (0 : Int32).toInt).toNat + 1) 0 0
set_option linter.all false in
set_option maxHeartbeats 4000000 in
set_option maxRecDepth 100000 in
theorem c_X8_field (l : Launch) (D : va_G) (a_this a_this_bytes a_this_keys a_this_reg a_this_card a_this_filled a_this_taken a_this_line a_this_one a_this_two : Nat) (k_this_bytes : ClassId) (o_this : Int32 × Int32 × Int32 × Int32 × Bool × Bool × Int32 × Int32 × Int32 × Int32 × Bool × Bool × Bool × Int32 × Int32 × Int32 × Int32 × Int32 × Int32 × Int32 × Int32 × Int32 × Int32 × Int32 × Int32) (r_this_bytes : Nat → Int32) (p1 : Int32) (p2 : Int32) (hs : s_X8_field r_this_bytes p1 p2) : CtI l yX8_field cX8_field 5 (some .int) { frames := 0, cells := 0, slots := 0, locals := 0 } D [.ref a_this, .int p1, .int p2] [(a_this, oX8 a_this_bytes a_this_keys a_this_reg a_this_card a_this_filled a_this_taken a_this_line a_this_one a_this_two o_this), (a_this_bytes, .inl (k_this_bytes, 2048, .inl r_this_bytes))] [(k_this_bytes, .int)] (fun (r : Int32) (u : Int32) => f_X8_field r_this_bytes p1 p2 = u ∧ r = u) (fun u => [(a_this, oX8 a_this_bytes a_this_keys a_this_reg a_this_card a_this_filled a_this_taken a_this_line a_this_one a_this_two o_this), (a_this_bytes, .inl (k_this_bytes, 2048, .inl r_this_bytes))]) := by
  refine CtI.of (by decide) (Nat.le_of_ble_eq_true rfl) ?_
  intro p e s m below meth c A ls Q hE hP hD hS hl hQ
  obtain ⟨hx, hb, hml, hown, ht, hN, hK, hA⟩ := hE
  have hown : s.vm.findClass RX8 = some m.cls := hown
  have hl : lv_has ls 5 [(0, .ref a_this), (1, .int p1), (2, .int p2)] := hl
  obtain ⟨F, hF⟩ : ∃ F, f_X8_field r_this_bytes p1 p2 = F := ⟨_, rfl⟩
  rw [hF] at hQ
  unfold f_X8_field at hF
  unfold s_X8_field at hs
  refine lv_iconst (v := 0) hx hb dX8_field_0 (by decide) ?_
  refine lv_istore_n (lv' := [(3, .int 0), (0, .ref a_this), (1, .int p1), (2, .int p2)]) hx hb dX8_field_1 rfl hl (by decide) rfl (fun ls hl => ?_)
  refine lv_iconst (v := 0) hx hb dX8_field_2 (by decide) ?_
  refine lv_istore (lv' := [(4, .int 0), (3, .int 0), (0, .ref a_this), (1, .int p1), (2, .int p2)]) hx hb dX8_field_3 hl (by decide) rfl (fun ls hl => ?_)
  have L5 : ∀ (fuel : Nat) (x4 : Int32) (x3 : Int32) (H : Heap) (locs : List Loc) (ls : Array Slot), ((p2 : Int32).toInt - (x4 : Int32).toInt).toNat < fuel → va_P D vwCl [(a_this, oX8 a_this_bytes a_this_keys a_this_reg a_this_card a_this_filled a_this_taken a_this_line a_this_one a_this_two o_this), (a_this_bytes, .inl (k_this_bytes, 2048, .inl r_this_bytes))] H → va_D A [(a_this, oX8 a_this_bytes a_this_keys a_this_reg a_this_card a_this_filled a_this_taken a_this_line a_this_one a_this_two o_this), (a_this_bytes, .inl (k_this_bytes, 2048, .inl r_this_bytes))] → va_S A s.heap H locs → lv_has ls 5 [(4, .int x4), (3, .int x3), (0, .ref a_this), (1, .int p1), (2, .int p2)] → f_X8_field_L5 r_this_bytes p1 p2 fuel x4 x3 = F → s_X8_field_L5 r_this_bytes p1 p2 fuel x4 x3 → W p l e ({ frames := 0, cells := 0, slots := 0, locals := 0 } : Room) s m ([.ref a_this, .int p1, .int p2] : List Value).toArray below meth c H locs 0 0 Q (F0 m 5 ls []) := by
    intro fuel
    induction fuel with
    | zero => intro x4 x3 H locs ls hm; exact absurd hm (Nat.not_lt_zero _)
    | succ fuel ih =>
      intro x4 x3 H locs ls hm  hP hD hS hl hF hs
      rw [f_X8_field_L5] at hF
      rw [s_X8_field_L5] at hs
      skip
      refine lv_iload hx hb dX8_field_5 (lv_at hl 0 rfl) ?_
      refine lv_iload_n hx hb dX8_field_7 rfl (lv_at hl 4 rfl) ?_
      refine lv_icmp_ge (tgt := 32) hx hb dX8_field_8 (by decide) (fun c_2 => ?_) (fun c_2 => ?_)
      · skip
        rw [if_pos c_2] at hF
        rw [if_pos c_2] at hs
        refine lv_iload_n hx hb dX8_field_32 rfl (lv_at hl 1 rfl) ?_
        exact hQ x3 x3 _ _ _ _ dX8_field_33 ⟨hF.symm, rfl⟩ hP hD hS
      · skip
        rw [if_neg c_2] at hF
        rw [if_neg c_2] at hs
        refine lv_iload_n hx hb dX8_field_11 rfl (lv_at hl 1 rfl) ?_
        refine lv_bipush (v := 8) hx hb dX8_field_12 (by decide) ?_
        refine lv_ishl hx hb dX8_field_14 ?_
        refine lv_aload_n hx hb dX8_field_15 rfl (lv_at hl 2 rfl) ?_
        refine gf_X8_7 (v := .ref a_this_bytes) hx hb hown ht hK hP 0 rfl rfl dX8_field_16 ?_
        refine lv_iload_n hx hb dX8_field_19 rfl (lv_at hl 3 rfl) ?_
        refine lv_iload hx hb dX8_field_20 (lv_at hl 0 rfl) ?_
        refine lv_iadd hx hb dX8_field_22 ?_
        obtain ⟨hi_3, hs⟩ := hs
        refine va_iald hx hb hK hP 1 0 rfl rfl hi_3 dX8_field_23 ?_
        refine lv_ior hx hb dX8_field_24 ?_
        refine lv_istore_n (lv' := [(3, .int ((x3 <<< ((8 : Int32) &&& 31)) ||| (r_this_bytes (p1 + x4).toNatClampNeg))), (4, .int x4), (0, .ref a_this), (1, .int p1), (2, .int p2)]) hx hb dX8_field_25 rfl hl (by decide) rfl (fun ls hl => ?_)
        refine lv_iinc (v := (x4 + (1 : Int32))) (lv' := [(4, .int (x4 + (1 : Int32))), (3, .int ((x3 <<< ((8 : Int32) &&& 31)) ||| (r_this_bytes (p1 + x4).toNatClampNeg))), (0, .ref a_this), (1, .int p1), (2, .int p2)]) hx hb dX8_field_26 hl (k := 1) rfl rfl (by decide) rfl (fun ls hl => ?_)
        refine lv_goto (tgt := 5) hx hb dX8_field_29 (by decide) ?_
        exact ih (x4 + (1 : Int32)) ((x3 <<< ((8 : Int32) &&& 31)) ||| (r_this_bytes (p1 + x4).toNatClampNeg)) _ _ _ (by first | exact q_up hm c_2)  hP hD hS (lv_sub hl [0, 1, 2, 3, 4] rfl) hF hs
  exact L5 (((p2 : Int32).toInt - (0 : Int32).toInt).toNat + 1) 0 0 _ _ _ (Nat.lt_succ_self _)  hP hD hS (lv_sub hl [0, 1, 2, 3, 4] rfl) hF hs
theorem cv_X8_field : qV yX8_field cX8_field 5 (some .int) 2 := ⟨kc_X8_field, kt_X8_field, ks_X8_field, kn_X8, by decide, by decide +kernel⟩
def f_X8_put_L3 (p1 : Int32) (p2 : Int32) (p3 : Int32) : Nat → (Nat → Int32) → Int32 → Nat → Int32
  | 0, r_this_bytes_L3, x4 => r_this_bytes_L3
  | fuel + 1, r_this_bytes_L3, x4 => (if p3 ≤ x4 then r_this_bytes_L3 else f_X8_put_L3 p1 p2 p3 fuel (upd r_this_bytes_L3 (p1 + x4).toNatClampNeg ((p2 >>> (((8 : Int32) * ((p3 - (1 : Int32)) - x4)) &&& 31)) &&& (255 : Int32))) (x4 + (1 : Int32)))
def s_X8_put_L3 (p1 : Int32) (p2 : Int32) (p3 : Int32) : Nat → (Nat → Int32) → Int32 → Prop
  | 0, _, _ => True
  | fuel + 1, r_this_bytes_L3, x4 => (if p3 ≤ x4 then True else (vp_in (p1 + x4) 2048 ∧ s_X8_put_L3 p1 p2 p3 fuel (upd r_this_bytes_L3 (p1 + x4).toNatClampNeg ((p2 >>> (((8 : Int32) * ((p3 - (1 : Int32)) - x4)) &&& 31)) &&& (255 : Int32))) (x4 + (1 : Int32))))
def f_X8_put (r_this_bytes : Nat → Int32) (p1 : Int32) (p2 : Int32) (p3 : Int32) : Nat → Int32 := f_X8_put_L3 p1 p2 p3 (((p3 : Int32).toInt - (0 : Int32).toInt).toNat + 1) r_this_bytes 0
def s_X8_put (r_this_bytes : Nat → Int32) (p1 : Int32) (p2 : Int32) (p3 : Int32) : Prop := s_X8_put_L3 p1 p2 p3 (((p3 : Int32).toInt - (0 : Int32).toInt).toNat + 1) r_this_bytes 0
set_option linter.all false in
set_option maxHeartbeats 4000000 in
set_option maxRecDepth 100000 in
theorem c_X8_put (l : Launch) (D : va_G) (a_this a_this_bytes a_this_keys a_this_reg a_this_card a_this_filled a_this_taken a_this_line a_this_one a_this_two : Nat) (k_this_bytes : ClassId) (o_this : Int32 × Int32 × Int32 × Int32 × Bool × Bool × Int32 × Int32 × Int32 × Int32 × Bool × Bool × Bool × Int32 × Int32 × Int32 × Int32 × Int32 × Int32 × Int32 × Int32 × Int32 × Int32 × Int32 × Int32) (r_this_bytes : Nat → Int32) (p1 : Int32) (p2 : Int32) (p3 : Int32) (hs : s_X8_put r_this_bytes p1 p2 p3) : CtV l yX8_put cX8_put 5 none { frames := 0, cells := 0, slots := 0, locals := 0 } D [.ref a_this, .int p1, .int p2, .int p3] [(a_this, oX8 a_this_bytes a_this_keys a_this_reg a_this_card a_this_filled a_this_taken a_this_line a_this_one a_this_two o_this), (a_this_bytes, .inl (k_this_bytes, 2048, .inl r_this_bytes))] [(k_this_bytes, .int)] (fun (u : Nat → Int32) => f_X8_put r_this_bytes p1 p2 p3 = u) (fun u => [(a_this, oX8 a_this_bytes a_this_keys a_this_reg a_this_card a_this_filled a_this_taken a_this_line a_this_one a_this_two o_this), (a_this_bytes, .inl (k_this_bytes, 2048, .inl u))]) := by
  refine CtV.of (by decide) (Nat.le_of_ble_eq_true rfl) ?_
  intro p e s m below meth c A ls Q hE hP hD hS hl hQ
  obtain ⟨hx, hb, hml, hown, ht, hN, hK, hA⟩ := hE
  have hown : s.vm.findClass RX8 = some m.cls := hown
  have hl : lv_has ls 5 [(0, .ref a_this), (1, .int p1), (2, .int p2), (3, .int p3)] := hl
  obtain ⟨F, hF⟩ : ∃ F, f_X8_put r_this_bytes p1 p2 p3 = F := ⟨_, rfl⟩
  rw [hF] at hQ
  unfold f_X8_put at hF
  unfold s_X8_put at hs
  refine lv_iconst (v := 0) hx hb dX8_put_0 (by decide) ?_
  refine lv_istore (lv' := [(4, .int 0), (0, .ref a_this), (1, .int p1), (2, .int p2), (3, .int p3)]) hx hb dX8_put_1 hl (by decide) rfl (fun ls hl => ?_)
  have L3 : ∀ (fuel : Nat) (r_this_bytes_L3 : Nat → Int32) (x4 : Int32) (H : Heap) (locs : List Loc) (ls : Array Slot), ((p3 : Int32).toInt - (x4 : Int32).toInt).toNat < fuel → va_P D vwCl [(a_this, oX8 a_this_bytes a_this_keys a_this_reg a_this_card a_this_filled a_this_taken a_this_line a_this_one a_this_two o_this), (a_this_bytes, .inl (k_this_bytes, 2048, .inl r_this_bytes_L3))] H → va_D A [(a_this, oX8 a_this_bytes a_this_keys a_this_reg a_this_card a_this_filled a_this_taken a_this_line a_this_one a_this_two o_this), (a_this_bytes, .inl (k_this_bytes, 2048, .inl r_this_bytes_L3))] → va_S A s.heap H locs → lv_has ls 5 [(4, .int x4), (0, .ref a_this), (1, .int p1), (2, .int p2), (3, .int p3)] → f_X8_put_L3 p1 p2 p3 fuel r_this_bytes_L3 x4 = F → s_X8_put_L3 p1 p2 p3 fuel r_this_bytes_L3 x4 → W p l e ({ frames := 0, cells := 0, slots := 0, locals := 0 } : Room) s m ([.ref a_this, .int p1, .int p2, .int p3] : List Value).toArray below meth c H locs 0 0 Q (F0 m 3 ls []) := by
    intro fuel
    induction fuel with
    | zero => intro r_this_bytes_L3 x4 H locs ls hm; exact absurd hm (Nat.not_lt_zero _)
    | succ fuel ih =>
      intro r_this_bytes_L3 x4 H locs ls hm  hP hD hS hl hF hs
      rw [f_X8_put_L3] at hF
      rw [s_X8_put_L3] at hs
      skip
      refine lv_iload hx hb dX8_put_3 (lv_at hl 0 rfl) ?_
      refine lv_iload_n hx hb dX8_put_5 rfl (lv_at hl 4 rfl) ?_
      refine lv_icmp_ge (tgt := 39) hx hb dX8_put_6 (by decide) (fun c_2 => ?_) (fun c_2 => ?_)
      · skip
        rw [if_pos c_2] at hF
        rw [if_pos c_2] at hs
        exact hQ r_this_bytes_L3 _ _ _ _ dX8_put_39 hF.symm hP hD hS
      · skip
        rw [if_neg c_2] at hF
        rw [if_neg c_2] at hs
        refine lv_aload_n hx hb dX8_put_9 rfl (lv_at hl 1 rfl) ?_
        refine gf_X8_7 (v := .ref a_this_bytes) hx hb hown ht hK hP 0 rfl rfl dX8_put_10 ?_
        refine lv_iload_n hx hb dX8_put_13 rfl (lv_at hl 2 rfl) ?_
        refine lv_iload hx hb dX8_put_14 (lv_at hl 0 rfl) ?_
        refine lv_iadd hx hb dX8_put_16 ?_
        refine lv_iload_n hx hb dX8_put_17 rfl (lv_at hl 3 rfl) ?_
        refine lv_bipush (v := 8) hx hb dX8_put_18 (by decide) ?_
        refine lv_iload_n hx hb dX8_put_20 rfl (lv_at hl 4 rfl) ?_
        refine lv_iconst (v := 1) hx hb dX8_put_21 (by decide) ?_
        refine lv_isub hx hb dX8_put_22 ?_
        refine lv_iload hx hb dX8_put_23 (lv_at hl 0 rfl) ?_
        refine lv_isub hx hb dX8_put_25 ?_
        refine lv_imul hx hb dX8_put_26 ?_
        refine lv_ishr hx hb dX8_put_27 ?_
        refine lv_sipush (v := 255) hx hb dX8_put_28 (by decide) ?_
        refine lv_iand hx hb dX8_put_31 ?_
        obtain ⟨hi_3, hs⟩ := hs
        refine va_iast hx hb hK hP hD hS 1 0 rfl rfl hi_3 dX8_put_32 (fun H locs hP hD hS => ?_)
        have hP : va_P D vwCl [(a_this, oX8 a_this_bytes a_this_keys a_this_reg a_this_card a_this_filled a_this_taken a_this_line a_this_one a_this_two o_this), (a_this_bytes, .inl (k_this_bytes, 2048, .inl (upd r_this_bytes_L3 (p1 + x4).toNatClampNeg ((p2 >>> (((8 : Int32) * ((p3 - (1 : Int32)) - x4)) &&& 31)) &&& (255 : Int32)))))] H := hP
        have hD : va_D A [(a_this, oX8 a_this_bytes a_this_keys a_this_reg a_this_card a_this_filled a_this_taken a_this_line a_this_one a_this_two o_this), (a_this_bytes, .inl (k_this_bytes, 2048, .inl (upd r_this_bytes_L3 (p1 + x4).toNatClampNeg ((p2 >>> (((8 : Int32) * ((p3 - (1 : Int32)) - x4)) &&& 31)) &&& (255 : Int32)))))] := hD
        refine lv_iinc (v := (x4 + (1 : Int32))) (lv' := [(4, .int (x4 + (1 : Int32))), (0, .ref a_this), (1, .int p1), (2, .int p2), (3, .int p3)]) hx hb dX8_put_33 hl (k := 0) rfl rfl (by decide) rfl (fun ls hl => ?_)
        refine lv_goto (tgt := 3) hx hb dX8_put_36 (by decide) ?_
        exact ih (upd r_this_bytes_L3 (p1 + x4).toNatClampNeg ((p2 >>> (((8 : Int32) * ((p3 - (1 : Int32)) - x4)) &&& 31)) &&& (255 : Int32))) (x4 + (1 : Int32)) _ _ _ (by first | exact q_up hm c_2)  hP hD hS (lv_sub hl [0, 1, 2, 3, 4] rfl) hF hs
  exact L3 (((p3 : Int32).toInt - (0 : Int32).toInt).toNat + 1) r_this_bytes 0 _ _ _ (Nat.lt_succ_self _)  hP hD hS (lv_sub hl [0, 1, 2, 3, 4] rfl) hF hs
theorem cv_X8_put : qV yX8_put cX8_put 5 none 3 := ⟨kc_X8_put, kt_X8_put, ks_X8_put, kn_X8, by decide, by decide +kernel⟩
def f_X8_signed (p1 : Int32) : Int32 := (if p1 ≤ (32767 : Int32) then p1 else (p1 - (65536 : Int32)))
set_option linter.all false in
set_option maxHeartbeats 4000000 in
set_option maxRecDepth 100000 in
theorem c_X8_signed (l : Launch) (D : va_G) (p1 : Int32) : CtI l yX8_signed cX8_signed 1 (some .int) { frames := 0, cells := 0, slots := 0, locals := 0 } D [.int p1] [] [] (fun (r : Int32) (u : Int32) => f_X8_signed p1 = u ∧ r = u) (fun u => []) := by
  refine CtI.of (by decide) (Nat.le_of_ble_eq_true rfl) ?_
  intro p e s m below meth c A ls Q hE hP hD hS hl hQ
  obtain ⟨hx, hb, hml, hown, ht, hN, hK, hA⟩ := hE
  have hown : s.vm.findClass RX8 = some m.cls := hown
  have hl : lv_has ls 1 [(0, .int p1)] := hl
  obtain ⟨F, hF⟩ : ∃ F, f_X8_signed p1 = F := ⟨_, rfl⟩
  rw [hF] at hQ
  unfold f_X8_signed at hF
  refine lv_iload_n hx hb dX8_signed_0 rfl (lv_at hl 0 rfl) ?_
  refine lv_sipush (v := 32767) hx hb dX8_signed_1 (by decide) ?_
  refine lv_icmp_le (tgt := 14) hx hb dX8_signed_4 (by decide) (fun c_1 => ?_) (fun c_1 => ?_)
  · skip
    rw [if_pos c_1] at hF
    refine lv_iload_n hx hb dX8_signed_14 rfl (lv_at hl 0 rfl) ?_
    exact hQ p1 p1 _ _ _ _ dX8_signed_15 ⟨hF.symm, rfl⟩ hP hD hS
  · skip
    rw [if_neg c_1] at hF
    refine lv_iload_n hx hb dX8_signed_7 rfl (lv_at hl 0 rfl) ?_
    refine lv_ldc (v := 65536) hx hb hown (ht _ ki_X8_37) dX8_signed_8 ?_
    refine lv_isub hx hb dX8_signed_10 ?_
    refine lv_goto (tgt := 15) hx hb dX8_signed_11 (by decide) ?_
    exact hQ (p1 - (65536 : Int32)) (p1 - (65536 : Int32)) _ _ _ _ dX8_signed_15 ⟨hF.symm, rfl⟩ hP hD hS
theorem cv_X8_signed : qS yX8_signed cX8_signed 1 (some .int) 1 := ⟨kc_X8_signed, kt_X8_signed, kn_X8, by decide, by decide +kernel⟩
def f_X8_wrong (o_this : Int32 × Int32 × Int32 × Int32 × Bool × Bool × Int32 × Int32 × Int32 × Int32 × Bool × Bool × Bool × Int32 × Int32 × Int32 × Int32 × Int32 × Int32 × Int32 × Int32 × Int32 × Int32 × Int32 × Int32) (p1 : Bool) (p2 : Int32) : Int32 × Int32 × Int32 × Int32 × Bool × Bool × Int32 × Int32 × Int32 × Int32 × Bool × Bool × Bool × Int32 × Int32 × Int32 × Int32 × Int32 × Int32 × Int32 × Int32 × Int32 × Int32 × Int32 × Int32 := (if p1 = true then (if o_this.2.2.2.2.2.2.2.2.1 = 0 then (o_this.1, o_this.2.1, o_this.2.2.1, o_this.2.2.2.1, o_this.2.2.2.2.1, o_this.2.2.2.2.2.1, o_this.2.2.2.2.2.2.1, o_this.2.2.2.2.2.2.2.1, p2, o_this.2.2.2.2.2.2.2.2.2.1, o_this.2.2.2.2.2.2.2.2.2.2.1, o_this.2.2.2.2.2.2.2.2.2.2.2.1, o_this.2.2.2.2.2.2.2.2.2.2.2.2.1, o_this.2.2.2.2.2.2.2.2.2.2.2.2.2.1, o_this.2.2.2.2.2.2.2.2.2.2.2.2.2.2.1, o_this.2.2.2.2.2.2.2.2.2.2.2.2.2.2.2.1, o_this.2.2.2.2.2.2.2.2.2.2.2.2.2.2.2.2.1, o_this.2.2.2.2.2.2.2.2.2.2.2.2.2.2.2.2.2.1, o_this.2.2.2.2.2.2.2.2.2.2.2.2.2.2.2.2.2.2.1, o_this.2.2.2.2.2.2.2.2.2.2.2.2.2.2.2.2.2.2.2.1, o_this.2.2.2.2.2.2.2.2.2.2.2.2.2.2.2.2.2.2.2.2.1, o_this.2.2.2.2.2.2.2.2.2.2.2.2.2.2.2.2.2.2.2.2.2.1, o_this.2.2.2.2.2.2.2.2.2.2.2.2.2.2.2.2.2.2.2.2.2.2.1, o_this.2.2.2.2.2.2.2.2.2.2.2.2.2.2.2.2.2.2.2.2.2.2.2.1, o_this.2.2.2.2.2.2.2.2.2.2.2.2.2.2.2.2.2.2.2.2.2.2.2.2) else o_this) else o_this)
set_option linter.all false in
set_option maxHeartbeats 4000000 in
set_option maxRecDepth 100000 in
theorem c_X8_wrong (l : Launch) (D : va_G) (a_this a_this_bytes a_this_keys a_this_reg a_this_card a_this_filled a_this_taken a_this_line a_this_one a_this_two : Nat) (o_this : Int32 × Int32 × Int32 × Int32 × Bool × Bool × Int32 × Int32 × Int32 × Int32 × Bool × Bool × Bool × Int32 × Int32 × Int32 × Int32 × Int32 × Int32 × Int32 × Int32 × Int32 × Int32 × Int32 × Int32) (p1 : Bool) (p2 : Int32) : CtV l yX8_wrong cX8_wrong 3 none { frames := 0, cells := 0, slots := 0, locals := 0 } D [.ref a_this, .int (bI p1), .int p2] [(a_this, oX8 a_this_bytes a_this_keys a_this_reg a_this_card a_this_filled a_this_taken a_this_line a_this_one a_this_two o_this)] [] (fun (u : Int32 × Int32 × Int32 × Int32 × Bool × Bool × Int32 × Int32 × Int32 × Int32 × Bool × Bool × Bool × Int32 × Int32 × Int32 × Int32 × Int32 × Int32 × Int32 × Int32 × Int32 × Int32 × Int32 × Int32) => f_X8_wrong o_this p1 p2 = u) (fun u => [(a_this, oX8 a_this_bytes a_this_keys a_this_reg a_this_card a_this_filled a_this_taken a_this_line a_this_one a_this_two u)]) := by
  refine CtV.of (by decide) (Nat.le_of_ble_eq_true rfl) ?_
  intro p e s m below meth c A ls Q hE hP hD hS hl hQ
  obtain ⟨hx, hb, hml, hown, ht, hN, hK, hA⟩ := hE
  have hown : s.vm.findClass RX8 = some m.cls := hown
  have hl : lv_has ls 3 [(0, .ref a_this), (1, .int (bI p1)), (2, .int p2)] := hl
  obtain ⟨F, hF⟩ : ∃ F, f_X8_wrong o_this p1 p2 = F := ⟨_, rfl⟩
  rw [hF] at hQ
  unfold f_X8_wrong at hF
  refine lv_aload_n hx hb dX8_wrong_0 rfl (lv_at hl 0 rfl) ?_
  refine lv_iload_n hx hb dX8_wrong_1 rfl (lv_at hl 1 rfl) ?_
  refine lv_if_eq (tgt := 16) hx hb dX8_wrong_2 (by decide) (fun c_1 => ?_) (fun c_1 => ?_)
  · have c_1 : ¬ p1 = true := by rw [(bI_eq0 _).mp c_1]; decide
    rw [if_neg c_1] at hF
    refine lv_aload_n hx hb dX8_wrong_16 rfl (lv_at hl 0 rfl) ?_
    refine gf_X8_38 (v := .int o_this.2.2.2.2.2.2.2.2.1) hx hb hown ht hK hP 0 rfl rfl dX8_wrong_17 ?_
    refine pf_X8_38 (x := o_this.2.2.2.2.2.2.2.2.1) hx hb hown ht hK hP hD hS 0 rfl (Nat.le_of_ble_eq_true rfl) dX8_wrong_20 (fun H locs hP hD hS => ?_)
    have hP : va_P D vwCl [(a_this, oX8 a_this_bytes a_this_keys a_this_reg a_this_card a_this_filled a_this_taken a_this_line a_this_one a_this_two o_this)] H := hP
    have hD : va_D A [(a_this, oX8 a_this_bytes a_this_keys a_this_reg a_this_card a_this_filled a_this_taken a_this_line a_this_one a_this_two o_this)] := hD
    exact hQ o_this _ _ _ _ dX8_wrong_23 hF.symm hP hD hS
  · have c_1 := (bI_ne0 _).mp c_1
    rw [if_pos c_1] at hF
    refine lv_aload_n hx hb dX8_wrong_5 rfl (lv_at hl 0 rfl) ?_
    refine gf_X8_38 (v := .int o_this.2.2.2.2.2.2.2.2.1) hx hb hown ht hK hP 0 rfl rfl dX8_wrong_6 ?_
    refine lv_if_ne (tgt := 16) hx hb dX8_wrong_9 (by decide) (fun c_2 => ?_) (fun c_2 => ?_)
    · skip
      rw [if_neg c_2] at hF
      refine lv_aload_n hx hb dX8_wrong_16 rfl (lv_at hl 0 rfl) ?_
      refine gf_X8_38 (v := .int o_this.2.2.2.2.2.2.2.2.1) hx hb hown ht hK hP 0 rfl rfl dX8_wrong_17 ?_
      refine pf_X8_38 (x := o_this.2.2.2.2.2.2.2.2.1) hx hb hown ht hK hP hD hS 0 rfl (Nat.le_of_ble_eq_true rfl) dX8_wrong_20 (fun H locs hP hD hS => ?_)
      have hP : va_P D vwCl [(a_this, oX8 a_this_bytes a_this_keys a_this_reg a_this_card a_this_filled a_this_taken a_this_line a_this_one a_this_two o_this)] H := hP
      have hD : va_D A [(a_this, oX8 a_this_bytes a_this_keys a_this_reg a_this_card a_this_filled a_this_taken a_this_line a_this_one a_this_two o_this)] := hD
      exact hQ o_this _ _ _ _ dX8_wrong_23 hF.symm hP hD hS
    · skip
      rw [if_pos c_2] at hF
      refine lv_iload_n hx hb dX8_wrong_12 rfl (lv_at hl 2 rfl) ?_
      refine lv_goto (tgt := 20) hx hb dX8_wrong_13 (by decide) ?_
      refine pf_X8_38 (x := p2) hx hb hown ht hK hP hD hS 0 rfl (Nat.le_of_ble_eq_true rfl) dX8_wrong_20 (fun H locs hP hD hS => ?_)
      have hP : va_P D vwCl [(a_this, oX8 a_this_bytes a_this_keys a_this_reg a_this_card a_this_filled a_this_taken a_this_line a_this_one a_this_two (o_this.1, o_this.2.1, o_this.2.2.1, o_this.2.2.2.1, o_this.2.2.2.2.1, o_this.2.2.2.2.2.1, o_this.2.2.2.2.2.2.1, o_this.2.2.2.2.2.2.2.1, p2, o_this.2.2.2.2.2.2.2.2.2.1, o_this.2.2.2.2.2.2.2.2.2.2.1, o_this.2.2.2.2.2.2.2.2.2.2.2.1, o_this.2.2.2.2.2.2.2.2.2.2.2.2.1, o_this.2.2.2.2.2.2.2.2.2.2.2.2.2.1, o_this.2.2.2.2.2.2.2.2.2.2.2.2.2.2.1, o_this.2.2.2.2.2.2.2.2.2.2.2.2.2.2.2.1, o_this.2.2.2.2.2.2.2.2.2.2.2.2.2.2.2.2.1, o_this.2.2.2.2.2.2.2.2.2.2.2.2.2.2.2.2.2.1, o_this.2.2.2.2.2.2.2.2.2.2.2.2.2.2.2.2.2.2.1, o_this.2.2.2.2.2.2.2.2.2.2.2.2.2.2.2.2.2.2.2.1, o_this.2.2.2.2.2.2.2.2.2.2.2.2.2.2.2.2.2.2.2.2.1, o_this.2.2.2.2.2.2.2.2.2.2.2.2.2.2.2.2.2.2.2.2.2.1, o_this.2.2.2.2.2.2.2.2.2.2.2.2.2.2.2.2.2.2.2.2.2.2.1, o_this.2.2.2.2.2.2.2.2.2.2.2.2.2.2.2.2.2.2.2.2.2.2.2.1, o_this.2.2.2.2.2.2.2.2.2.2.2.2.2.2.2.2.2.2.2.2.2.2.2.2))] H := hP
      have hD : va_D A [(a_this, oX8 a_this_bytes a_this_keys a_this_reg a_this_card a_this_filled a_this_taken a_this_line a_this_one a_this_two (o_this.1, o_this.2.1, o_this.2.2.1, o_this.2.2.2.1, o_this.2.2.2.2.1, o_this.2.2.2.2.2.1, o_this.2.2.2.2.2.2.1, o_this.2.2.2.2.2.2.2.1, p2, o_this.2.2.2.2.2.2.2.2.2.1, o_this.2.2.2.2.2.2.2.2.2.2.1, o_this.2.2.2.2.2.2.2.2.2.2.2.1, o_this.2.2.2.2.2.2.2.2.2.2.2.2.1, o_this.2.2.2.2.2.2.2.2.2.2.2.2.2.1, o_this.2.2.2.2.2.2.2.2.2.2.2.2.2.2.1, o_this.2.2.2.2.2.2.2.2.2.2.2.2.2.2.2.1, o_this.2.2.2.2.2.2.2.2.2.2.2.2.2.2.2.2.1, o_this.2.2.2.2.2.2.2.2.2.2.2.2.2.2.2.2.2.1, o_this.2.2.2.2.2.2.2.2.2.2.2.2.2.2.2.2.2.2.1, o_this.2.2.2.2.2.2.2.2.2.2.2.2.2.2.2.2.2.2.2.1, o_this.2.2.2.2.2.2.2.2.2.2.2.2.2.2.2.2.2.2.2.2.1, o_this.2.2.2.2.2.2.2.2.2.2.2.2.2.2.2.2.2.2.2.2.2.1, o_this.2.2.2.2.2.2.2.2.2.2.2.2.2.2.2.2.2.2.2.2.2.2.1, o_this.2.2.2.2.2.2.2.2.2.2.2.2.2.2.2.2.2.2.2.2.2.2.2.1, o_this.2.2.2.2.2.2.2.2.2.2.2.2.2.2.2.2.2.2.2.2.2.2.2.2))] := hD
      exact hQ (o_this.1, o_this.2.1, o_this.2.2.1, o_this.2.2.2.1, o_this.2.2.2.2.1, o_this.2.2.2.2.2.1, o_this.2.2.2.2.2.2.1, o_this.2.2.2.2.2.2.2.1, p2, o_this.2.2.2.2.2.2.2.2.2.1, o_this.2.2.2.2.2.2.2.2.2.2.1, o_this.2.2.2.2.2.2.2.2.2.2.2.1, o_this.2.2.2.2.2.2.2.2.2.2.2.2.1, o_this.2.2.2.2.2.2.2.2.2.2.2.2.2.1, o_this.2.2.2.2.2.2.2.2.2.2.2.2.2.2.1, o_this.2.2.2.2.2.2.2.2.2.2.2.2.2.2.2.1, o_this.2.2.2.2.2.2.2.2.2.2.2.2.2.2.2.2.1, o_this.2.2.2.2.2.2.2.2.2.2.2.2.2.2.2.2.2.1, o_this.2.2.2.2.2.2.2.2.2.2.2.2.2.2.2.2.2.2.1, o_this.2.2.2.2.2.2.2.2.2.2.2.2.2.2.2.2.2.2.2.1, o_this.2.2.2.2.2.2.2.2.2.2.2.2.2.2.2.2.2.2.2.2.1, o_this.2.2.2.2.2.2.2.2.2.2.2.2.2.2.2.2.2.2.2.2.2.1, o_this.2.2.2.2.2.2.2.2.2.2.2.2.2.2.2.2.2.2.2.2.2.2.1, o_this.2.2.2.2.2.2.2.2.2.2.2.2.2.2.2.2.2.2.2.2.2.2.2.1, o_this.2.2.2.2.2.2.2.2.2.2.2.2.2.2.2.2.2.2.2.2.2.2.2.2) _ _ _ _ dX8_wrong_23 hF.symm hP hD hS
theorem cv_X8_wrong : qV yX8_wrong cX8_wrong 3 none 2 := ⟨kc_X8_wrong, kt_X8_wrong, ks_X8_wrong, kn_X8, by decide, by decide +kernel⟩
def f_X8_good_L39 (r_this_keys : Nat → Int32) (p1 : Int32) (p2 : Int32) (p4 : Bool) : Nat → (Int32 × Int32 × Int32 × Int32 × Bool × Bool × Int32 × Int32 × Int32 × Int32 × Bool × Bool × Bool × Int32 × Int32 × Int32 × Int32 × Int32 × Int32 × Int32 × Int32 × Int32 × Int32 × Int32 × Int32) → Int32 → Bool × (Int32 × Int32 × Int32 × Int32 × Bool × Bool × Int32 × Int32 × Int32 × Int32 × Bool × Bool × Bool × Int32 × Int32 × Int32 × Int32 × Int32 × Int32 × Int32 × Int32 × Int32 × Int32 × Int32 × Int32)
  | 0, o_this_L39, x5 => (false, o_this_L39)
  | fuel + 1, o_this_L39, x5 => (if p2 ≤ x5 then (if o_this_L39.2.2.2.2.2.2.2.2.1 = 0 then (true, o_this_L39) else (false, o_this_L39)) else (if p4 = true then (if o_this_L39.2.1 = 0 then (if o_this_L39.2.2.2.2.2.2.2.2.1 = 0 then (true, o_this_L39) else (false, o_this_L39)) else (if o_this_L39.2.2.2.2.2.2.2.2.1 = 0 then (if (r_this_keys ((p1 + x5) / (256 : Int32)).toNatClampNeg) = o_this_L39.2.1 then (q_let (f_X8_wrong o_this_L39 false 4) fun w_17 => f_X8_good_L39 r_this_keys p1 p2 p4 fuel w_17 (x5 + (1 : Int32))) else (q_let (f_X8_wrong o_this_L39 true 4) fun w_18 => f_X8_good_L39 r_this_keys p1 p2 p4 fuel w_18 (x5 + (1 : Int32)))) else (if o_this_L39.2.2.2.2.2.2.2.2.1 = 0 then (true, o_this_L39) else (false, o_this_L39)))) else (if o_this_L39.2.2.2.2.2.2.2.2.1 = 0 then (true, o_this_L39) else (false, o_this_L39))))
def s_X8_good_L39 (r_this_keys : Nat → Int32) (p1 : Int32) (p2 : Int32) (p4 : Bool) : Nat → (Int32 × Int32 × Int32 × Int32 × Bool × Bool × Int32 × Int32 × Int32 × Int32 × Bool × Bool × Bool × Int32 × Int32 × Int32 × Int32 × Int32 × Int32 × Int32 × Int32 × Int32 × Int32 × Int32 × Int32) → Int32 → Prop
  | 0, _, _ => True
  | fuel + 1, o_this_L39, x5 => (if p2 ≤ x5 then True else (if p4 = true then (if o_this_L39.2.1 = 0 then True else (if o_this_L39.2.2.2.2.2.2.2.2.1 = 0 then (vp_in ((p1 + x5) / (256 : Int32)) 8 ∧ (if (r_this_keys ((p1 + x5) / (256 : Int32)).toNatClampNeg) = o_this_L39.2.1 then (q_let (f_X8_wrong o_this_L39 false 4) fun w_17 => s_X8_good_L39 r_this_keys p1 p2 p4 fuel w_17 (x5 + (1 : Int32))) else (q_let (f_X8_wrong o_this_L39 true 4) fun w_18 => s_X8_good_L39 r_this_keys p1 p2 p4 fuel w_18 (x5 + (1 : Int32))))) else True)) else True))
def f_X8_good_L39b (r_this_keys : Nat → Int32) (p1 : Int32) (p2 : Int32) (p4 : Bool) : Nat → (Int32 × Int32 × Int32 × Int32 × Bool × Bool × Int32 × Int32 × Int32 × Int32 × Bool × Bool × Bool × Int32 × Int32 × Int32 × Int32 × Int32 × Int32 × Int32 × Int32 × Int32 × Int32 × Int32 × Int32) → Int32 → Bool × (Int32 × Int32 × Int32 × Int32 × Bool × Bool × Int32 × Int32 × Int32 × Int32 × Bool × Bool × Bool × Int32 × Int32 × Int32 × Int32 × Int32 × Int32 × Int32 × Int32 × Int32 × Int32 × Int32 × Int32)
  | 0, o_this_L39, x5 => (false, o_this_L39)
  | fuel + 1, o_this_L39, x5 => (if p2 ≤ x5 then (if o_this_L39.2.2.2.2.2.2.2.2.1 = 0 then (true, o_this_L39) else (false, o_this_L39)) else (if p4 = true then (if o_this_L39.2.1 = 0 then (if o_this_L39.2.2.2.2.2.2.2.2.1 = 0 then (true, o_this_L39) else (false, o_this_L39)) else (if o_this_L39.2.2.2.2.2.2.2.2.1 = 0 then (if (r_this_keys ((p1 + x5) / (256 : Int32)).toNatClampNeg) = o_this_L39.2.1 then (q_let (f_X8_wrong o_this_L39 false 4) fun w_31 => f_X8_good_L39b r_this_keys p1 p2 p4 fuel w_31 (x5 + (1 : Int32))) else (q_let (f_X8_wrong o_this_L39 true 4) fun w_32 => f_X8_good_L39b r_this_keys p1 p2 p4 fuel w_32 (x5 + (1 : Int32)))) else (if o_this_L39.2.2.2.2.2.2.2.2.1 = 0 then (true, o_this_L39) else (false, o_this_L39)))) else (if o_this_L39.2.2.2.2.2.2.2.2.1 = 0 then (true, o_this_L39) else (false, o_this_L39))))
def s_X8_good_L39b (r_this_keys : Nat → Int32) (p1 : Int32) (p2 : Int32) (p4 : Bool) : Nat → (Int32 × Int32 × Int32 × Int32 × Bool × Bool × Int32 × Int32 × Int32 × Int32 × Bool × Bool × Bool × Int32 × Int32 × Int32 × Int32 × Int32 × Int32 × Int32 × Int32 × Int32 × Int32 × Int32 × Int32) → Int32 → Prop
  | 0, _, _ => True
  | fuel + 1, o_this_L39, x5 => (if p2 ≤ x5 then True else (if p4 = true then (if o_this_L39.2.1 = 0 then True else (if o_this_L39.2.2.2.2.2.2.2.2.1 = 0 then (vp_in ((p1 + x5) / (256 : Int32)) 8 ∧ (if (r_this_keys ((p1 + x5) / (256 : Int32)).toNatClampNeg) = o_this_L39.2.1 then (q_let (f_X8_wrong o_this_L39 false 4) fun w_31 => s_X8_good_L39b r_this_keys p1 p2 p4 fuel w_31 (x5 + (1 : Int32))) else (q_let (f_X8_wrong o_this_L39 true 4) fun w_32 => s_X8_good_L39b r_this_keys p1 p2 p4 fuel w_32 (x5 + (1 : Int32))))) else True)) else True))
def f_X8_good_L39bb (r_this_keys : Nat → Int32) (p1 : Int32) (p2 : Int32) (p4 : Bool) : Nat → (Int32 × Int32 × Int32 × Int32 × Bool × Bool × Int32 × Int32 × Int32 × Int32 × Bool × Bool × Bool × Int32 × Int32 × Int32 × Int32 × Int32 × Int32 × Int32 × Int32 × Int32 × Int32 × Int32 × Int32) → Int32 → Bool × (Int32 × Int32 × Int32 × Int32 × Bool × Bool × Int32 × Int32 × Int32 × Int32 × Bool × Bool × Bool × Int32 × Int32 × Int32 × Int32 × Int32 × Int32 × Int32 × Int32 × Int32 × Int32 × Int32 × Int32)
  | 0, o_this_L39, x5 => (false, o_this_L39)
  | fuel + 1, o_this_L39, x5 => (if p2 ≤ x5 then (if o_this_L39.2.2.2.2.2.2.2.2.1 = 0 then (true, o_this_L39) else (false, o_this_L39)) else (if p4 = true then (if o_this_L39.2.1 = 0 then (if o_this_L39.2.2.2.2.2.2.2.2.1 = 0 then (true, o_this_L39) else (false, o_this_L39)) else (if o_this_L39.2.2.2.2.2.2.2.2.1 = 0 then (if (r_this_keys ((p1 + x5) / (256 : Int32)).toNatClampNeg) = o_this_L39.2.1 then (q_let (f_X8_wrong o_this_L39 false 4) fun w_47 => f_X8_good_L39bb r_this_keys p1 p2 p4 fuel w_47 (x5 + (1 : Int32))) else (q_let (f_X8_wrong o_this_L39 true 4) fun w_48 => f_X8_good_L39bb r_this_keys p1 p2 p4 fuel w_48 (x5 + (1 : Int32)))) else (if o_this_L39.2.2.2.2.2.2.2.2.1 = 0 then (true, o_this_L39) else (false, o_this_L39)))) else (if o_this_L39.2.2.2.2.2.2.2.2.1 = 0 then (true, o_this_L39) else (false, o_this_L39))))
def s_X8_good_L39bb (r_this_keys : Nat → Int32) (p1 : Int32) (p2 : Int32) (p4 : Bool) : Nat → (Int32 × Int32 × Int32 × Int32 × Bool × Bool × Int32 × Int32 × Int32 × Int32 × Bool × Bool × Bool × Int32 × Int32 × Int32 × Int32 × Int32 × Int32 × Int32 × Int32 × Int32 × Int32 × Int32 × Int32) → Int32 → Prop
  | 0, _, _ => True
  | fuel + 1, o_this_L39, x5 => (if p2 ≤ x5 then True else (if p4 = true then (if o_this_L39.2.1 = 0 then True else (if o_this_L39.2.2.2.2.2.2.2.2.1 = 0 then (vp_in ((p1 + x5) / (256 : Int32)) 8 ∧ (if (r_this_keys ((p1 + x5) / (256 : Int32)).toNatClampNeg) = o_this_L39.2.1 then (q_let (f_X8_wrong o_this_L39 false 4) fun w_47 => s_X8_good_L39bb r_this_keys p1 p2 p4 fuel w_47 (x5 + (1 : Int32))) else (q_let (f_X8_wrong o_this_L39 true 4) fun w_48 => s_X8_good_L39bb r_this_keys p1 p2 p4 fuel w_48 (x5 + (1 : Int32))))) else True)) else True))
def f_X8_good_L39bbb (r_this_keys : Nat → Int32) (p1 : Int32) (p2 : Int32) (p4 : Bool) : Nat → (Int32 × Int32 × Int32 × Int32 × Bool × Bool × Int32 × Int32 × Int32 × Int32 × Bool × Bool × Bool × Int32 × Int32 × Int32 × Int32 × Int32 × Int32 × Int32 × Int32 × Int32 × Int32 × Int32 × Int32) → Int32 → Bool × (Int32 × Int32 × Int32 × Int32 × Bool × Bool × Int32 × Int32 × Int32 × Int32 × Bool × Bool × Bool × Int32 × Int32 × Int32 × Int32 × Int32 × Int32 × Int32 × Int32 × Int32 × Int32 × Int32 × Int32)
  | 0, o_this_L39, x5 => (false, o_this_L39)
  | fuel + 1, o_this_L39, x5 => (if p2 ≤ x5 then (if o_this_L39.2.2.2.2.2.2.2.2.1 = 0 then (true, o_this_L39) else (false, o_this_L39)) else (if p4 = true then (if o_this_L39.2.1 = 0 then (if o_this_L39.2.2.2.2.2.2.2.2.1 = 0 then (true, o_this_L39) else (false, o_this_L39)) else (if o_this_L39.2.2.2.2.2.2.2.2.1 = 0 then (if (r_this_keys ((p1 + x5) / (256 : Int32)).toNatClampNeg) = o_this_L39.2.1 then (q_let (f_X8_wrong o_this_L39 false 4) fun w_61 => f_X8_good_L39bbb r_this_keys p1 p2 p4 fuel w_61 (x5 + (1 : Int32))) else (q_let (f_X8_wrong o_this_L39 true 4) fun w_62 => f_X8_good_L39bbb r_this_keys p1 p2 p4 fuel w_62 (x5 + (1 : Int32)))) else (if o_this_L39.2.2.2.2.2.2.2.2.1 = 0 then (true, o_this_L39) else (false, o_this_L39)))) else (if o_this_L39.2.2.2.2.2.2.2.2.1 = 0 then (true, o_this_L39) else (false, o_this_L39))))
def s_X8_good_L39bbb (r_this_keys : Nat → Int32) (p1 : Int32) (p2 : Int32) (p4 : Bool) : Nat → (Int32 × Int32 × Int32 × Int32 × Bool × Bool × Int32 × Int32 × Int32 × Int32 × Bool × Bool × Bool × Int32 × Int32 × Int32 × Int32 × Int32 × Int32 × Int32 × Int32 × Int32 × Int32 × Int32 × Int32) → Int32 → Prop
  | 0, _, _ => True
  | fuel + 1, o_this_L39, x5 => (if p2 ≤ x5 then True else (if p4 = true then (if o_this_L39.2.1 = 0 then True else (if o_this_L39.2.2.2.2.2.2.2.2.1 = 0 then (vp_in ((p1 + x5) / (256 : Int32)) 8 ∧ (if (r_this_keys ((p1 + x5) / (256 : Int32)).toNatClampNeg) = o_this_L39.2.1 then (q_let (f_X8_wrong o_this_L39 false 4) fun w_61 => s_X8_good_L39bbb r_this_keys p1 p2 p4 fuel w_61 (x5 + (1 : Int32))) else (q_let (f_X8_wrong o_this_L39 true 4) fun w_62 => s_X8_good_L39bbb r_this_keys p1 p2 p4 fuel w_62 (x5 + (1 : Int32))))) else True)) else True))
def f_X8_good (o_this : Int32 × Int32 × Int32 × Int32 × Bool × Bool × Int32 × Int32 × Int32 × Int32 × Bool × Bool × Bool × Int32 × Int32 × Int32 × Int32 × Int32 × Int32 × Int32 × Int32 × Int32 × Int32 × Int32 × Int32) (r_this_keys : Nat → Int32) (p1 : Int32) (p2 : Int32) (p3 : Int32) (p4 : Bool) : Bool × (Int32 × Int32 × Int32 × Int32 × Bool × Bool × Int32 × Int32 × Int32 × Int32 × Bool × Bool × Bool × Int32 × Int32 × Int32 × Int32 × Int32 × Int32 × Int32 × Int32 × Int32 × Int32 × Int32 × Int32) := (if (p1 - p1 / p3 * p3) = 0 then (q_let (f_X8_wrong o_this false 6) fun w_3 => (if (p1 + p2) ≤ (2048 : Int32) then (q_let (f_X8_wrong w_3 false 5) fun w_5 => f_X8_good_L39 r_this_keys p1 p2 p4 (((p2 : Int32).toInt - (0 : Int32).toInt).toNat + 1) w_5 0) else (q_let (f_X8_wrong w_3 true 5) fun w_19 => f_X8_good_L39b r_this_keys p1 p2 p4 (((p2 : Int32).toInt - (0 : Int32).toInt).toNat + 1) w_19 0))) else (q_let (f_X8_wrong o_this true 6) fun w_33 => (if (p1 + p2) ≤ (2048 : Int32) then (q_let (f_X8_wrong w_33 false 5) fun w_35 => f_X8_good_L39bb r_this_keys p1 p2 p4 (((p2 : Int32).toInt - (0 : Int32).toInt).toNat + 1) w_35 0) else (q_let (f_X8_wrong w_33 true 5) fun w_49 => f_X8_good_L39bbb r_this_keys p1 p2 p4 (((p2 : Int32).toInt - (0 : Int32).toInt).toNat + 1) w_49 0))))
def s_X8_good (o_this : Int32 × Int32 × Int32 × Int32 × Bool × Bool × Int32 × Int32 × Int32 × Int32 × Bool × Bool × Bool × Int32 × Int32 × Int32 × Int32 × Int32 × Int32 × Int32 × Int32 × Int32 × Int32 × Int32 × Int32) (r_this_keys : Nat → Int32) (p1 : Int32) (p2 : Int32) (p3 : Int32) (p4 : Bool) : Prop := (¬ p3 = 0 ∧ (if (p1 - p1 / p3 * p3) = 0 then (q_let (f_X8_wrong o_this false 6) fun w_3 => (if (p1 + p2) ≤ (2048 : Int32) then (q_let (f_X8_wrong w_3 false 5) fun w_5 => s_X8_good_L39 r_this_keys p1 p2 p4 (((p2 : Int32).toInt - (0 : Int32).toInt).toNat + 1) w_5 0) else (q_let (f_X8_wrong w_3 true 5) fun w_19 => s_X8_good_L39b r_this_keys p1 p2 p4 (((p2 : Int32).toInt - (0 : Int32).toInt).toNat + 1) w_19 0))) else (q_let (f_X8_wrong o_this true 6) fun w_33 => (if (p1 + p2) ≤ (2048 : Int32) then (q_let (f_X8_wrong w_33 false 5) fun w_35 => s_X8_good_L39bb r_this_keys p1 p2 p4 (((p2 : Int32).toInt - (0 : Int32).toInt).toNat + 1) w_35 0) else (q_let (f_X8_wrong w_33 true 5) fun w_49 => s_X8_good_L39bbb r_this_keys p1 p2 p4 (((p2 : Int32).toInt - (0 : Int32).toInt).toNat + 1) w_49 0)))))
set_option linter.all false in
set_option maxHeartbeats 4000000 in
set_option maxRecDepth 100000 in
theorem c_X8_good (l : Launch) (D : va_G) (a_this a_this_keys a_this_bytes a_this_reg a_this_card a_this_filled a_this_taken a_this_line a_this_one a_this_two : Nat) (k_this_keys : ClassId) (o_this : Int32 × Int32 × Int32 × Int32 × Bool × Bool × Int32 × Int32 × Int32 × Int32 × Bool × Bool × Bool × Int32 × Int32 × Int32 × Int32 × Int32 × Int32 × Int32 × Int32 × Int32 × Int32 × Int32 × Int32) (r_this_keys : Nat → Int32) (p1 : Int32) (p2 : Int32) (p3 : Int32) (p4 : Bool) (hs : s_X8_good o_this r_this_keys p1 p2 p3 p4) : CtI l yX8_good cX8_good 6 (some .boolean) { frames := 1, cells := 0, slots := 0, locals := 22 } D [.ref a_this, .int p1, .int p2, .int p3, .int (bI p4)] [(a_this, oX8 a_this_bytes a_this_keys a_this_reg a_this_card a_this_filled a_this_taken a_this_line a_this_one a_this_two o_this), (a_this_keys, .inl (k_this_keys, 8, .inl r_this_keys))] [(k_this_keys, .int)] (fun (r : Int32) (u : Bool × (Int32 × Int32 × Int32 × Int32 × Bool × Bool × Int32 × Int32 × Int32 × Int32 × Bool × Bool × Bool × Int32 × Int32 × Int32 × Int32 × Int32 × Int32 × Int32 × Int32 × Int32 × Int32 × Int32 × Int32)) => f_X8_good o_this r_this_keys p1 p2 p3 p4 = u ∧ r = bI u.1) (fun u => [(a_this, oX8 a_this_bytes a_this_keys a_this_reg a_this_card a_this_filled a_this_taken a_this_line a_this_one a_this_two u.2), (a_this_keys, .inl (k_this_keys, 8, .inl r_this_keys))]) := by
  refine CtI.ofZ (by decide) (Nat.le_of_ble_eq_true rfl) ?_
  intro p e s m below meth c A ls Q hE hP hD hS hl hQ
  obtain ⟨hx, hb, hml, hown, ht, hN, hK, hA⟩ := hE
  have hown : s.vm.findClass RX8 = some m.cls := hown
  have hl : lv_has ls 6 [(0, .ref a_this), (1, .int p1), (2, .int p2), (3, .int p3), (4, .int (bI p4))] := hl
  obtain ⟨F, hF⟩ : ∃ F, f_X8_good o_this r_this_keys p1 p2 p3 p4 = F := ⟨_, rfl⟩
  rw [hF] at hQ
  unfold f_X8_good at hF
  unfold s_X8_good at hs
  refine lv_aload_n hx hb dX8_good_0 rfl (lv_at hl 0 rfl) ?_
  refine lv_iload_n hx hb dX8_good_1 rfl (lv_at hl 1 rfl) ?_
  refine lv_iload_n hx hb dX8_good_2 rfl (lv_at hl 3 rfl) ?_
  obtain ⟨hi_1, hs⟩ := hs
  refine lv_irem hx hb dX8_good_3 hi_1 ?_
  refine lv_if_eq (tgt := 11) hx hb dX8_good_4 (by decide) (fun c_2 => ?_) (fun c_2 => ?_)
  · skip
    rw [if_pos c_2] at hF
    rw [if_pos c_2] at hs
    refine lv_iconst (v := 0) hx hb dX8_good_11 (by decide) ?_
    refine lv_bipush (v := 6) hx hb dX8_good_12 (by decide) ?_
    refine q_Vv (rest := []) (c_X8_wrong l D a_this a_this_bytes a_this_keys a_this_reg a_this_card a_this_filled a_this_taken a_this_line a_this_one a_this_two o_this false 6) cv_X8_wrong hx hb hml hown ht hN hK hA hP hD hS hl.1 (km_X8_42) ⟨Nat.le_of_ble_eq_true rfl, Nat.le_of_ble_eq_true rfl⟩ rfl rfl [0] (by decide) rfl [] rfl (fun _ => rfl) (ci := 8) rfl rfl rfl rfl rfl (Nat.le_of_ble_eq_true rfl) dX8_good_14 ⟨Nat.zero_le _, Nat.zero_le _⟩ (fun w_3 H locs hw hP hD hS => ?_)
    have hP : va_P D vwCl [(a_this, oX8 a_this_bytes a_this_keys a_this_reg a_this_card a_this_filled a_this_taken a_this_line a_this_one a_this_two w_3), (a_this_keys, .inl (k_this_keys, 8, .inl r_this_keys))] H := hP
    have hD : va_D A [(a_this, oX8 a_this_bytes a_this_keys a_this_reg a_this_card a_this_filled a_this_taken a_this_line a_this_one a_this_two w_3), (a_this_keys, .inl (k_this_keys, 8, .inl r_this_keys))] := hD
    rw [q_let_of hw] at hF
    rw [q_let_of hw] at hs
    refine lv_aload_n hx hb dX8_good_17 rfl (lv_at hl 0 rfl) ?_
    refine lv_iload_n hx hb dX8_good_18 rfl (lv_at hl 1 rfl) ?_
    refine lv_iload_n hx hb dX8_good_19 rfl (lv_at hl 2 rfl) ?_
    refine lv_iadd hx hb dX8_good_20 ?_
    refine lv_sipush (v := 2048) hx hb dX8_good_21 (by decide) ?_
    refine lv_icmp_le (tgt := 31) hx hb dX8_good_24 (by decide) (fun c_4 => ?_) (fun c_4 => ?_)
    · skip
      rw [if_pos c_4] at hF
      rw [if_pos c_4] at hs
      refine lv_iconst (v := 0) hx hb dX8_good_31 (by decide) ?_
      refine lv_iconst (v := 5) hx hb dX8_good_32 (by decide) ?_
      refine q_Vv (rest := []) (c_X8_wrong l D a_this a_this_bytes a_this_keys a_this_reg a_this_card a_this_filled a_this_taken a_this_line a_this_one a_this_two w_3 false 5) cv_X8_wrong hx hb hml hown ht hN hK hA hP hD hS hl.1 (km_X8_42) ⟨Nat.le_of_ble_eq_true rfl, Nat.le_of_ble_eq_true rfl⟩ rfl rfl [0] (by decide) rfl [] rfl (fun _ => rfl) (ci := 8) rfl rfl rfl rfl rfl (Nat.le_of_ble_eq_true rfl) dX8_good_33 ⟨Nat.zero_le _, Nat.zero_le _⟩ (fun w_5 H locs hw hP hD hS => ?_)
      have hP : va_P D vwCl [(a_this, oX8 a_this_bytes a_this_keys a_this_reg a_this_card a_this_filled a_this_taken a_this_line a_this_one a_this_two w_5), (a_this_keys, .inl (k_this_keys, 8, .inl r_this_keys))] H := hP
      have hD : va_D A [(a_this, oX8 a_this_bytes a_this_keys a_this_reg a_this_card a_this_filled a_this_taken a_this_line a_this_one a_this_two w_5), (a_this_keys, .inl (k_this_keys, 8, .inl r_this_keys))] := hD
      rw [q_let_of hw] at hF
      rw [q_let_of hw] at hs
      refine lv_iconst (v := 0) hx hb dX8_good_36 (by decide) ?_
      refine lv_istore (lv' := [(5, .int 0), (0, .ref a_this), (1, .int p1), (2, .int p2), (3, .int p3), (4, .int (bI p4))]) hx hb dX8_good_37 hl (by decide) rfl (fun ls hl => ?_)
      have L39 : ∀ (fuel : Nat) (o_this_L39 : Int32 × Int32 × Int32 × Int32 × Bool × Bool × Int32 × Int32 × Int32 × Int32 × Bool × Bool × Bool × Int32 × Int32 × Int32 × Int32 × Int32 × Int32 × Int32 × Int32 × Int32 × Int32 × Int32 × Int32) (x5 : Int32) (H : Heap) (locs : List Loc) (ls : Array Slot), ((p2 : Int32).toInt - (x5 : Int32).toInt).toNat < fuel → va_P D vwCl [(a_this, oX8 a_this_bytes a_this_keys a_this_reg a_this_card a_this_filled a_this_taken a_this_line a_this_one a_this_two o_this_L39), (a_this_keys, .inl (k_this_keys, 8, .inl r_this_keys))] H → va_D A [(a_this, oX8 a_this_bytes a_this_keys a_this_reg a_this_card a_this_filled a_this_taken a_this_line a_this_one a_this_two o_this_L39), (a_this_keys, .inl (k_this_keys, 8, .inl r_this_keys))] → va_S A s.heap H locs → lv_has ls 6 [(5, .int x5), (0, .ref a_this), (1, .int p1), (2, .int p2), (3, .int p3), (4, .int (bI p4))] → f_X8_good_L39 r_this_keys p1 p2 p4 fuel o_this_L39 x5 = F → s_X8_good_L39 r_this_keys p1 p2 p4 fuel o_this_L39 x5 → W p l e ({ frames := 1, cells := 0, slots := 0, locals := 22 } : Room) s m ([.ref a_this, .int p1, .int p2, .int p3, .int (bI p4)] : List Value).toArray below meth c H locs 0 0 Q (F0 m 39 ls []) := by
        intro fuel
        induction fuel with
        | zero => intro o_this_L39 x5 H locs ls hm; exact absurd hm (Nat.not_lt_zero _)
        | succ fuel ih =>
          intro o_this_L39 x5 H locs ls hm  hP hD hS hl hF hs
          rw [f_X8_good_L39] at hF
          rw [s_X8_good_L39] at hs
          skip
          refine lv_iload hx hb dX8_good_39 (lv_at hl 0 rfl) ?_
          refine lv_iload_n hx hb dX8_good_41 rfl (lv_at hl 3 rfl) ?_
          refine lv_icmp_ge (tgt := 100) hx hb dX8_good_42 (by decide) (fun c_7 => ?_) (fun c_7 => ?_)
          · skip
            rw [if_pos c_7] at hF
            rw [if_pos c_7] at hs
            refine lv_aload_n hx hb dX8_good_100 rfl (lv_at hl 1 rfl) ?_
            refine gf_X8_38 (v := .int o_this_L39.2.2.2.2.2.2.2.2.1) hx hb hown ht hK hP 0 rfl rfl dX8_good_101 ?_
            refine lv_if_ne (tgt := 111) hx hb dX8_good_104 (by decide) (fun c_8 => ?_) (fun c_8 => ?_)
            · skip
              rw [if_neg c_8] at hF
              refine lv_iconst (v := 0) hx hb dX8_good_111 (by decide) ?_
              exact hQ false (false, o_this_L39) _ _ _ _ dX8_good_112 ⟨hF.symm, rfl⟩ hP hD hS
            · skip
              rw [if_pos c_8] at hF
              refine lv_iconst (v := 1) hx hb dX8_good_107 (by decide) ?_
              refine lv_goto (tgt := 112) hx hb dX8_good_108 (by decide) ?_
              exact hQ true (true, o_this_L39) _ _ _ _ dX8_good_112 ⟨hF.symm, rfl⟩ hP hD hS
          · skip
            rw [if_neg c_7] at hF
            rw [if_neg c_7] at hs
            refine lv_iload hx hb dX8_good_45 (lv_at hl 5 rfl) ?_
            refine lv_if_eq (tgt := 100) hx hb dX8_good_47 (by decide) (fun c_9 => ?_) (fun c_9 => ?_)
            · have c_9 : ¬ p4 = true := by rw [(bI_eq0 _).mp c_9]; decide
              rw [if_neg c_9] at hF
              rw [if_neg c_9] at hs
              refine lv_aload_n hx hb dX8_good_100 rfl (lv_at hl 1 rfl) ?_
              refine gf_X8_38 (v := .int o_this_L39.2.2.2.2.2.2.2.2.1) hx hb hown ht hK hP 0 rfl rfl dX8_good_101 ?_
              refine lv_if_ne (tgt := 111) hx hb dX8_good_104 (by decide) (fun c_10 => ?_) (fun c_10 => ?_)
              · skip
                rw [if_neg c_10] at hF
                refine lv_iconst (v := 0) hx hb dX8_good_111 (by decide) ?_
                exact hQ false (false, o_this_L39) _ _ _ _ dX8_good_112 ⟨hF.symm, rfl⟩ hP hD hS
              · skip
                rw [if_pos c_10] at hF
                refine lv_iconst (v := 1) hx hb dX8_good_107 (by decide) ?_
                refine lv_goto (tgt := 112) hx hb dX8_good_108 (by decide) ?_
                exact hQ true (true, o_this_L39) _ _ _ _ dX8_good_112 ⟨hF.symm, rfl⟩ hP hD hS
            · have c_9 := (bI_ne0 _).mp c_9
              rw [if_pos c_9] at hF
              rw [if_pos c_9] at hs
              refine lv_aload_n hx hb dX8_good_50 rfl (lv_at hl 1 rfl) ?_
              refine gf_X8_46 (v := .int o_this_L39.2.1) hx hb hown ht hK hP 0 rfl rfl dX8_good_51 ?_
              refine lv_if_eq (tgt := 100) hx hb dX8_good_54 (by decide) (fun c_11 => ?_) (fun c_11 => ?_)
              · skip
                rw [if_pos c_11] at hF
                rw [if_pos c_11] at hs
                refine lv_aload_n hx hb dX8_good_100 rfl (lv_at hl 1 rfl) ?_
                refine gf_X8_38 (v := .int o_this_L39.2.2.2.2.2.2.2.2.1) hx hb hown ht hK hP 0 rfl rfl dX8_good_101 ?_
                refine lv_if_ne (tgt := 111) hx hb dX8_good_104 (by decide) (fun c_12 => ?_) (fun c_12 => ?_)
                · skip
                  rw [if_neg c_12] at hF
                  refine lv_iconst (v := 0) hx hb dX8_good_111 (by decide) ?_
                  exact hQ false (false, o_this_L39) _ _ _ _ dX8_good_112 ⟨hF.symm, rfl⟩ hP hD hS
                · skip
                  rw [if_pos c_12] at hF
                  refine lv_iconst (v := 1) hx hb dX8_good_107 (by decide) ?_
                  refine lv_goto (tgt := 112) hx hb dX8_good_108 (by decide) ?_
                  exact hQ true (true, o_this_L39) _ _ _ _ dX8_good_112 ⟨hF.symm, rfl⟩ hP hD hS
              · skip
                rw [if_neg c_11] at hF
                rw [if_neg c_11] at hs
                refine lv_aload_n hx hb dX8_good_57 rfl (lv_at hl 1 rfl) ?_
                refine gf_X8_38 (v := .int o_this_L39.2.2.2.2.2.2.2.2.1) hx hb hown ht hK hP 0 rfl rfl dX8_good_58 ?_
                refine lv_if_ne (tgt := 100) hx hb dX8_good_61 (by decide) (fun c_13 => ?_) (fun c_13 => ?_)
                · skip
                  rw [if_neg c_13] at hF
                  rw [if_neg c_13] at hs
                  refine lv_aload_n hx hb dX8_good_100 rfl (lv_at hl 1 rfl) ?_
                  refine gf_X8_38 (v := .int o_this_L39.2.2.2.2.2.2.2.2.1) hx hb hown ht hK hP 0 rfl rfl dX8_good_101 ?_
                  refine lv_if_ne (tgt := 111) hx hb dX8_good_104 (by decide) (fun c_14 => ?_) (fun c_14 => ?_)
                  · skip
                    rw [if_neg c_14] at hF
                    refine lv_iconst (v := 0) hx hb dX8_good_111 (by decide) ?_
                    exact hQ false (false, o_this_L39) _ _ _ _ dX8_good_112 ⟨hF.symm, rfl⟩ hP hD hS
                  · skip
                    rw [if_pos c_14] at hF
                    refine lv_iconst (v := 1) hx hb dX8_good_107 (by decide) ?_
                    refine lv_goto (tgt := 112) hx hb dX8_good_108 (by decide) ?_
                    exact hQ true (true, o_this_L39) _ _ _ _ dX8_good_112 ⟨hF.symm, rfl⟩ hP hD hS
                · skip
                  rw [if_pos c_13] at hF
                  rw [if_pos c_13] at hs
                  refine lv_aload_n hx hb dX8_good_64 rfl (lv_at hl 1 rfl) ?_
                  refine lv_aload_n hx hb dX8_good_65 rfl (lv_at hl 1 rfl) ?_
                  refine gf_X8_13 (v := .ref a_this_keys) hx hb hown ht hK hP 0 rfl rfl dX8_good_66 ?_
                  refine lv_iload_n hx hb dX8_good_69 rfl (lv_at hl 2 rfl) ?_
                  refine lv_iload hx hb dX8_good_70 (lv_at hl 0 rfl) ?_
                  refine lv_iadd hx hb dX8_good_72 ?_
                  refine lv_sipush (v := 256) hx hb dX8_good_73 (by decide) ?_
                  refine lv_idiv hx hb dX8_good_76 (by decide) ?_
                  obtain ⟨hi_15, hs⟩ := hs
                  refine va_iald hx hb hK hP 1 0 rfl rfl hi_15 dX8_good_77 ?_
                  refine lv_aload_n hx hb dX8_good_78 rfl (lv_at hl 1 rfl) ?_
                  refine gf_X8_46 (v := .int o_this_L39.2.1) hx hb hown ht hK hP 0 rfl rfl dX8_good_79 ?_
                  refine lv_icmp_eq (tgt := 89) hx hb dX8_good_82 (by decide) (fun c_16 => ?_) (fun c_16 => ?_)
                  · skip
                    rw [if_pos c_16] at hF
                    rw [if_pos c_16] at hs
                    refine lv_iconst (v := 0) hx hb dX8_good_89 (by decide) ?_
                    refine lv_iconst (v := 4) hx hb dX8_good_90 (by decide) ?_
                    refine q_Vv (rest := []) (c_X8_wrong l D a_this a_this_bytes a_this_keys a_this_reg a_this_card a_this_filled a_this_taken a_this_line a_this_one a_this_two o_this_L39 false 4) cv_X8_wrong hx hb hml hown ht hN hK hA hP hD hS hl.1 (km_X8_42) ⟨Nat.le_of_ble_eq_true rfl, Nat.le_of_ble_eq_true rfl⟩ rfl rfl [0] (by decide) rfl [] rfl (fun _ => rfl) (ci := 8) rfl rfl rfl rfl rfl (Nat.le_of_ble_eq_true rfl) dX8_good_91 ⟨Nat.zero_le _, Nat.zero_le _⟩ (fun w_17 H locs hw hP hD hS => ?_)
                    have hP : va_P D vwCl [(a_this, oX8 a_this_bytes a_this_keys a_this_reg a_this_card a_this_filled a_this_taken a_this_line a_this_one a_this_two w_17), (a_this_keys, .inl (k_this_keys, 8, .inl r_this_keys))] H := hP
                    have hD : va_D A [(a_this, oX8 a_this_bytes a_this_keys a_this_reg a_this_card a_this_filled a_this_taken a_this_line a_this_one a_this_two w_17), (a_this_keys, .inl (k_this_keys, 8, .inl r_this_keys))] := hD
                    rw [q_let_of hw] at hF
                    rw [q_let_of hw] at hs
                    refine lv_iinc (v := (x5 + (1 : Int32))) (lv' := [(5, .int (x5 + (1 : Int32))), (0, .ref a_this), (1, .int p1), (2, .int p2), (3, .int p3), (4, .int (bI p4))]) hx hb dX8_good_94 hl (k := 0) rfl rfl (by decide) rfl (fun ls hl => ?_)
                    refine lv_goto (tgt := 39) hx hb dX8_good_97 (by decide) ?_
                    exact ih w_17 (x5 + (1 : Int32)) _ _ _ (by first | exact q_up hm c_2 | exact q_up hm c_4 | exact q_up hm c_7 | exact q_up hm c_9 | exact q_up hm c_11 | exact q_up hm c_13 | exact q_up hm c_16)  hP hD hS (lv_sub hl [0, 1, 2, 3, 4, 5] rfl) hF hs
                  · skip
                    rw [if_neg c_16] at hF
                    rw [if_neg c_16] at hs
                    refine lv_iconst (v := 1) hx hb dX8_good_85 (by decide) ?_
                    refine lv_goto (tgt := 90) hx hb dX8_good_86 (by decide) ?_
                    refine lv_iconst (v := 4) hx hb dX8_good_90 (by decide) ?_
                    refine q_Vv (rest := []) (c_X8_wrong l D a_this a_this_bytes a_this_keys a_this_reg a_this_card a_this_filled a_this_taken a_this_line a_this_one a_this_two o_this_L39 true 4) cv_X8_wrong hx hb hml hown ht hN hK hA hP hD hS hl.1 (km_X8_42) ⟨Nat.le_of_ble_eq_true rfl, Nat.le_of_ble_eq_true rfl⟩ rfl rfl [0] (by decide) rfl [] rfl (fun _ => rfl) (ci := 8) rfl rfl rfl rfl rfl (Nat.le_of_ble_eq_true rfl) dX8_good_91 ⟨Nat.zero_le _, Nat.zero_le _⟩ (fun w_18 H locs hw hP hD hS => ?_)
                    have hP : va_P D vwCl [(a_this, oX8 a_this_bytes a_this_keys a_this_reg a_this_card a_this_filled a_this_taken a_this_line a_this_one a_this_two w_18), (a_this_keys, .inl (k_this_keys, 8, .inl r_this_keys))] H := hP
                    have hD : va_D A [(a_this, oX8 a_this_bytes a_this_keys a_this_reg a_this_card a_this_filled a_this_taken a_this_line a_this_one a_this_two w_18), (a_this_keys, .inl (k_this_keys, 8, .inl r_this_keys))] := hD
                    rw [q_let_of hw] at hF
                    rw [q_let_of hw] at hs
                    refine lv_iinc (v := (x5 + (1 : Int32))) (lv' := [(5, .int (x5 + (1 : Int32))), (0, .ref a_this), (1, .int p1), (2, .int p2), (3, .int p3), (4, .int (bI p4))]) hx hb dX8_good_94 hl (k := 0) rfl rfl (by decide) rfl (fun ls hl => ?_)
                    refine lv_goto (tgt := 39) hx hb dX8_good_97 (by decide) ?_
                    exact ih w_18 (x5 + (1 : Int32)) _ _ _ (by first | exact q_up hm c_2 | exact q_up hm c_4 | exact q_up hm c_7 | exact q_up hm c_9 | exact q_up hm c_11 | exact q_up hm c_13 | exact q_up hm c_16)  hP hD hS (lv_sub hl [0, 1, 2, 3, 4, 5] rfl) hF hs
      exact L39 (((p2 : Int32).toInt - (0 : Int32).toInt).toNat + 1) w_5 0 _ _ _ (Nat.lt_succ_self _)  hP hD hS (lv_sub hl [0, 1, 2, 3, 4, 5] rfl) hF hs
    · skip
      rw [if_neg c_4] at hF
      rw [if_neg c_4] at hs
      refine lv_iconst (v := 1) hx hb dX8_good_27 (by decide) ?_
      refine lv_goto (tgt := 32) hx hb dX8_good_28 (by decide) ?_
      refine lv_iconst (v := 5) hx hb dX8_good_32 (by decide) ?_
      refine q_Vv (rest := []) (c_X8_wrong l D a_this a_this_bytes a_this_keys a_this_reg a_this_card a_this_filled a_this_taken a_this_line a_this_one a_this_two w_3 true 5) cv_X8_wrong hx hb hml hown ht hN hK hA hP hD hS hl.1 (km_X8_42) ⟨Nat.le_of_ble_eq_true rfl, Nat.le_of_ble_eq_true rfl⟩ rfl rfl [0] (by decide) rfl [] rfl (fun _ => rfl) (ci := 8) rfl rfl rfl rfl rfl (Nat.le_of_ble_eq_true rfl) dX8_good_33 ⟨Nat.zero_le _, Nat.zero_le _⟩ (fun w_19 H locs hw hP hD hS => ?_)
      have hP : va_P D vwCl [(a_this, oX8 a_this_bytes a_this_keys a_this_reg a_this_card a_this_filled a_this_taken a_this_line a_this_one a_this_two w_19), (a_this_keys, .inl (k_this_keys, 8, .inl r_this_keys))] H := hP
      have hD : va_D A [(a_this, oX8 a_this_bytes a_this_keys a_this_reg a_this_card a_this_filled a_this_taken a_this_line a_this_one a_this_two w_19), (a_this_keys, .inl (k_this_keys, 8, .inl r_this_keys))] := hD
      rw [q_let_of hw] at hF
      rw [q_let_of hw] at hs
      refine lv_iconst (v := 0) hx hb dX8_good_36 (by decide) ?_
      refine lv_istore (lv' := [(5, .int 0), (0, .ref a_this), (1, .int p1), (2, .int p2), (3, .int p3), (4, .int (bI p4))]) hx hb dX8_good_37 hl (by decide) rfl (fun ls hl => ?_)
      have L39 : ∀ (fuel : Nat) (o_this_L39 : Int32 × Int32 × Int32 × Int32 × Bool × Bool × Int32 × Int32 × Int32 × Int32 × Bool × Bool × Bool × Int32 × Int32 × Int32 × Int32 × Int32 × Int32 × Int32 × Int32 × Int32 × Int32 × Int32 × Int32) (x5 : Int32) (H : Heap) (locs : List Loc) (ls : Array Slot), ((p2 : Int32).toInt - (x5 : Int32).toInt).toNat < fuel → va_P D vwCl [(a_this, oX8 a_this_bytes a_this_keys a_this_reg a_this_card a_this_filled a_this_taken a_this_line a_this_one a_this_two o_this_L39), (a_this_keys, .inl (k_this_keys, 8, .inl r_this_keys))] H → va_D A [(a_this, oX8 a_this_bytes a_this_keys a_this_reg a_this_card a_this_filled a_this_taken a_this_line a_this_one a_this_two o_this_L39), (a_this_keys, .inl (k_this_keys, 8, .inl r_this_keys))] → va_S A s.heap H locs → lv_has ls 6 [(5, .int x5), (0, .ref a_this), (1, .int p1), (2, .int p2), (3, .int p3), (4, .int (bI p4))] → f_X8_good_L39b r_this_keys p1 p2 p4 fuel o_this_L39 x5 = F → s_X8_good_L39b r_this_keys p1 p2 p4 fuel o_this_L39 x5 → W p l e ({ frames := 1, cells := 0, slots := 0, locals := 22 } : Room) s m ([.ref a_this, .int p1, .int p2, .int p3, .int (bI p4)] : List Value).toArray below meth c H locs 0 0 Q (F0 m 39 ls []) := by
        intro fuel
        induction fuel with
        | zero => intro o_this_L39 x5 H locs ls hm; exact absurd hm (Nat.not_lt_zero _)
        | succ fuel ih =>
          intro o_this_L39 x5 H locs ls hm  hP hD hS hl hF hs
          rw [f_X8_good_L39b] at hF
          rw [s_X8_good_L39b] at hs
          skip
          refine lv_iload hx hb dX8_good_39 (lv_at hl 0 rfl) ?_
          refine lv_iload_n hx hb dX8_good_41 rfl (lv_at hl 3 rfl) ?_
          refine lv_icmp_ge (tgt := 100) hx hb dX8_good_42 (by decide) (fun c_21 => ?_) (fun c_21 => ?_)
          · skip
            rw [if_pos c_21] at hF
            rw [if_pos c_21] at hs
            refine lv_aload_n hx hb dX8_good_100 rfl (lv_at hl 1 rfl) ?_
            refine gf_X8_38 (v := .int o_this_L39.2.2.2.2.2.2.2.2.1) hx hb hown ht hK hP 0 rfl rfl dX8_good_101 ?_
            refine lv_if_ne (tgt := 111) hx hb dX8_good_104 (by decide) (fun c_22 => ?_) (fun c_22 => ?_)
            · skip
              rw [if_neg c_22] at hF
              refine lv_iconst (v := 0) hx hb dX8_good_111 (by decide) ?_
              exact hQ false (false, o_this_L39) _ _ _ _ dX8_good_112 ⟨hF.symm, rfl⟩ hP hD hS
            · skip
              rw [if_pos c_22] at hF
              refine lv_iconst (v := 1) hx hb dX8_good_107 (by decide) ?_
              refine lv_goto (tgt := 112) hx hb dX8_good_108 (by decide) ?_
              exact hQ true (true, o_this_L39) _ _ _ _ dX8_good_112 ⟨hF.symm, rfl⟩ hP hD hS
          · skip
            rw [if_neg c_21] at hF
            rw [if_neg c_21] at hs
            refine lv_iload hx hb dX8_good_45 (lv_at hl 5 rfl) ?_
            refine lv_if_eq (tgt := 100) hx hb dX8_good_47 (by decide) (fun c_23 => ?_) (fun c_23 => ?_)
            · have c_23 : ¬ p4 = true := by rw [(bI_eq0 _).mp c_23]; decide
              rw [if_neg c_23] at hF
              rw [if_neg c_23] at hs
              refine lv_aload_n hx hb dX8_good_100 rfl (lv_at hl 1 rfl) ?_
              refine gf_X8_38 (v := .int o_this_L39.2.2.2.2.2.2.2.2.1) hx hb hown ht hK hP 0 rfl rfl dX8_good_101 ?_
              refine lv_if_ne (tgt := 111) hx hb dX8_good_104 (by decide) (fun c_24 => ?_) (fun c_24 => ?_)
              · skip
                rw [if_neg c_24] at hF
                refine lv_iconst (v := 0) hx hb dX8_good_111 (by decide) ?_
                exact hQ false (false, o_this_L39) _ _ _ _ dX8_good_112 ⟨hF.symm, rfl⟩ hP hD hS
              · skip
                rw [if_pos c_24] at hF
                refine lv_iconst (v := 1) hx hb dX8_good_107 (by decide) ?_
                refine lv_goto (tgt := 112) hx hb dX8_good_108 (by decide) ?_
                exact hQ true (true, o_this_L39) _ _ _ _ dX8_good_112 ⟨hF.symm, rfl⟩ hP hD hS
            · have c_23 := (bI_ne0 _).mp c_23
              rw [if_pos c_23] at hF
              rw [if_pos c_23] at hs
              refine lv_aload_n hx hb dX8_good_50 rfl (lv_at hl 1 rfl) ?_
              refine gf_X8_46 (v := .int o_this_L39.2.1) hx hb hown ht hK hP 0 rfl rfl dX8_good_51 ?_
              refine lv_if_eq (tgt := 100) hx hb dX8_good_54 (by decide) (fun c_25 => ?_) (fun c_25 => ?_)
              · skip
                rw [if_pos c_25] at hF
                rw [if_pos c_25] at hs
                refine lv_aload_n hx hb dX8_good_100 rfl (lv_at hl 1 rfl) ?_
                refine gf_X8_38 (v := .int o_this_L39.2.2.2.2.2.2.2.2.1) hx hb hown ht hK hP 0 rfl rfl dX8_good_101 ?_
                refine lv_if_ne (tgt := 111) hx hb dX8_good_104 (by decide) (fun c_26 => ?_) (fun c_26 => ?_)
                · skip
                  rw [if_neg c_26] at hF
                  refine lv_iconst (v := 0) hx hb dX8_good_111 (by decide) ?_
                  exact hQ false (false, o_this_L39) _ _ _ _ dX8_good_112 ⟨hF.symm, rfl⟩ hP hD hS
                · skip
                  rw [if_pos c_26] at hF
                  refine lv_iconst (v := 1) hx hb dX8_good_107 (by decide) ?_
                  refine lv_goto (tgt := 112) hx hb dX8_good_108 (by decide) ?_
                  exact hQ true (true, o_this_L39) _ _ _ _ dX8_good_112 ⟨hF.symm, rfl⟩ hP hD hS
              · skip
                rw [if_neg c_25] at hF
                rw [if_neg c_25] at hs
                refine lv_aload_n hx hb dX8_good_57 rfl (lv_at hl 1 rfl) ?_
                refine gf_X8_38 (v := .int o_this_L39.2.2.2.2.2.2.2.2.1) hx hb hown ht hK hP 0 rfl rfl dX8_good_58 ?_
                refine lv_if_ne (tgt := 100) hx hb dX8_good_61 (by decide) (fun c_27 => ?_) (fun c_27 => ?_)
                · skip
                  rw [if_neg c_27] at hF
                  rw [if_neg c_27] at hs
                  refine lv_aload_n hx hb dX8_good_100 rfl (lv_at hl 1 rfl) ?_
                  refine gf_X8_38 (v := .int o_this_L39.2.2.2.2.2.2.2.2.1) hx hb hown ht hK hP 0 rfl rfl dX8_good_101 ?_
                  refine lv_if_ne (tgt := 111) hx hb dX8_good_104 (by decide) (fun c_28 => ?_) (fun c_28 => ?_)
                  · skip
                    rw [if_neg c_28] at hF
                    refine lv_iconst (v := 0) hx hb dX8_good_111 (by decide) ?_
                    exact hQ false (false, o_this_L39) _ _ _ _ dX8_good_112 ⟨hF.symm, rfl⟩ hP hD hS
                  · skip
                    rw [if_pos c_28] at hF
                    refine lv_iconst (v := 1) hx hb dX8_good_107 (by decide) ?_
                    refine lv_goto (tgt := 112) hx hb dX8_good_108 (by decide) ?_
                    exact hQ true (true, o_this_L39) _ _ _ _ dX8_good_112 ⟨hF.symm, rfl⟩ hP hD hS
                · skip
                  rw [if_pos c_27] at hF
                  rw [if_pos c_27] at hs
                  refine lv_aload_n hx hb dX8_good_64 rfl (lv_at hl 1 rfl) ?_
                  refine lv_aload_n hx hb dX8_good_65 rfl (lv_at hl 1 rfl) ?_
                  refine gf_X8_13 (v := .ref a_this_keys) hx hb hown ht hK hP 0 rfl rfl dX8_good_66 ?_
                  refine lv_iload_n hx hb dX8_good_69 rfl (lv_at hl 2 rfl) ?_
                  refine lv_iload hx hb dX8_good_70 (lv_at hl 0 rfl) ?_
                  refine lv_iadd hx hb dX8_good_72 ?_
                  refine lv_sipush (v := 256) hx hb dX8_good_73 (by decide) ?_
                  refine lv_idiv hx hb dX8_good_76 (by decide) ?_
                  obtain ⟨hi_29, hs⟩ := hs
                  refine va_iald hx hb hK hP 1 0 rfl rfl hi_29 dX8_good_77 ?_
                  refine lv_aload_n hx hb dX8_good_78 rfl (lv_at hl 1 rfl) ?_
                  refine gf_X8_46 (v := .int o_this_L39.2.1) hx hb hown ht hK hP 0 rfl rfl dX8_good_79 ?_
                  refine lv_icmp_eq (tgt := 89) hx hb dX8_good_82 (by decide) (fun c_30 => ?_) (fun c_30 => ?_)
                  · skip
                    rw [if_pos c_30] at hF
                    rw [if_pos c_30] at hs
                    refine lv_iconst (v := 0) hx hb dX8_good_89 (by decide) ?_
                    refine lv_iconst (v := 4) hx hb dX8_good_90 (by decide) ?_
                    refine q_Vv (rest := []) (c_X8_wrong l D a_this a_this_bytes a_this_keys a_this_reg a_this_card a_this_filled a_this_taken a_this_line a_this_one a_this_two o_this_L39 false 4) cv_X8_wrong hx hb hml hown ht hN hK hA hP hD hS hl.1 (km_X8_42) ⟨Nat.le_of_ble_eq_true rfl, Nat.le_of_ble_eq_true rfl⟩ rfl rfl [0] (by decide) rfl [] rfl (fun _ => rfl) (ci := 8) rfl rfl rfl rfl rfl (Nat.le_of_ble_eq_true rfl) dX8_good_91 ⟨Nat.zero_le _, Nat.zero_le _⟩ (fun w_31 H locs hw hP hD hS => ?_)
                    have hP : va_P D vwCl [(a_this, oX8 a_this_bytes a_this_keys a_this_reg a_this_card a_this_filled a_this_taken a_this_line a_this_one a_this_two w_31), (a_this_keys, .inl (k_this_keys, 8, .inl r_this_keys))] H := hP
                    have hD : va_D A [(a_this, oX8 a_this_bytes a_this_keys a_this_reg a_this_card a_this_filled a_this_taken a_this_line a_this_one a_this_two w_31), (a_this_keys, .inl (k_this_keys, 8, .inl r_this_keys))] := hD
                    rw [q_let_of hw] at hF
                    rw [q_let_of hw] at hs
                    refine lv_iinc (v := (x5 + (1 : Int32))) (lv' := [(5, .int (x5 + (1 : Int32))), (0, .ref a_this), (1, .int p1), (2, .int p2), (3, .int p3), (4, .int (bI p4))]) hx hb dX8_good_94 hl (k := 0) rfl rfl (by decide) rfl (fun ls hl => ?_)
                    refine lv_goto (tgt := 39) hx hb dX8_good_97 (by decide) ?_
                    exact ih w_31 (x5 + (1 : Int32)) _ _ _ (by first | exact q_up hm c_2 | exact q_up hm c_4 | exact q_up hm c_21 | exact q_up hm c_23 | exact q_up hm c_25 | exact q_up hm c_27 | exact q_up hm c_30)  hP hD hS (lv_sub hl [0, 1, 2, 3, 4, 5] rfl) hF hs
                  · skip
                    rw [if_neg c_30] at hF
                    rw [if_neg c_30] at hs
                    refine lv_iconst (v := 1) hx hb dX8_good_85 (by decide) ?_
                    refine lv_goto (tgt := 90) hx hb dX8_good_86 (by decide) ?_
                    refine lv_iconst (v := 4) hx hb dX8_good_90 (by decide) ?_
                    refine q_Vv (rest := []) (c_X8_wrong l D a_this a_this_bytes a_this_keys a_this_reg a_this_card a_this_filled a_this_taken a_this_line a_this_one a_this_two o_this_L39 true 4) cv_X8_wrong hx hb hml hown ht hN hK hA hP hD hS hl.1 (km_X8_42) ⟨Nat.le_of_ble_eq_true rfl, Nat.le_of_ble_eq_true rfl⟩ rfl rfl [0] (by decide) rfl [] rfl (fun _ => rfl) (ci := 8) rfl rfl rfl rfl rfl (Nat.le_of_ble_eq_true rfl) dX8_good_91 ⟨Nat.zero_le _, Nat.zero_le _⟩ (fun w_32 H locs hw hP hD hS => ?_)
                    have hP : va_P D vwCl [(a_this, oX8 a_this_bytes a_this_keys a_this_reg a_this_card a_this_filled a_this_taken a_this_line a_this_one a_this_two w_32), (a_this_keys, .inl (k_this_keys, 8, .inl r_this_keys))] H := hP
                    have hD : va_D A [(a_this, oX8 a_this_bytes a_this_keys a_this_reg a_this_card a_this_filled a_this_taken a_this_line a_this_one a_this_two w_32), (a_this_keys, .inl (k_this_keys, 8, .inl r_this_keys))] := hD
                    rw [q_let_of hw] at hF
                    rw [q_let_of hw] at hs
                    refine lv_iinc (v := (x5 + (1 : Int32))) (lv' := [(5, .int (x5 + (1 : Int32))), (0, .ref a_this), (1, .int p1), (2, .int p2), (3, .int p3), (4, .int (bI p4))]) hx hb dX8_good_94 hl (k := 0) rfl rfl (by decide) rfl (fun ls hl => ?_)
                    refine lv_goto (tgt := 39) hx hb dX8_good_97 (by decide) ?_
                    exact ih w_32 (x5 + (1 : Int32)) _ _ _ (by first | exact q_up hm c_2 | exact q_up hm c_4 | exact q_up hm c_21 | exact q_up hm c_23 | exact q_up hm c_25 | exact q_up hm c_27 | exact q_up hm c_30)  hP hD hS (lv_sub hl [0, 1, 2, 3, 4, 5] rfl) hF hs
      exact L39 (((p2 : Int32).toInt - (0 : Int32).toInt).toNat + 1) w_19 0 _ _ _ (Nat.lt_succ_self _)  hP hD hS (lv_sub hl [0, 1, 2, 3, 4, 5] rfl) hF hs
  · skip
    rw [if_neg c_2] at hF
    rw [if_neg c_2] at hs
    refine lv_iconst (v := 1) hx hb dX8_good_7 (by decide) ?_
    refine lv_goto (tgt := 12) hx hb dX8_good_8 (by decide) ?_
    refine lv_bipush (v := 6) hx hb dX8_good_12 (by decide) ?_
    refine q_Vv (rest := []) (c_X8_wrong l D a_this a_this_bytes a_this_keys a_this_reg a_this_card a_this_filled a_this_taken a_this_line a_this_one a_this_two o_this true 6) cv_X8_wrong hx hb hml hown ht hN hK hA hP hD hS hl.1 (km_X8_42) ⟨Nat.le_of_ble_eq_true rfl, Nat.le_of_ble_eq_true rfl⟩ rfl rfl [0] (by decide) rfl [] rfl (fun _ => rfl) (ci := 8) rfl rfl rfl rfl rfl (Nat.le_of_ble_eq_true rfl) dX8_good_14 ⟨Nat.zero_le _, Nat.zero_le _⟩ (fun w_33 H locs hw hP hD hS => ?_)
    have hP : va_P D vwCl [(a_this, oX8 a_this_bytes a_this_keys a_this_reg a_this_card a_this_filled a_this_taken a_this_line a_this_one a_this_two w_33), (a_this_keys, .inl (k_this_keys, 8, .inl r_this_keys))] H := hP
    have hD : va_D A [(a_this, oX8 a_this_bytes a_this_keys a_this_reg a_this_card a_this_filled a_this_taken a_this_line a_this_one a_this_two w_33), (a_this_keys, .inl (k_this_keys, 8, .inl r_this_keys))] := hD
    rw [q_let_of hw] at hF
    rw [q_let_of hw] at hs
    refine lv_aload_n hx hb dX8_good_17 rfl (lv_at hl 0 rfl) ?_
    refine lv_iload_n hx hb dX8_good_18 rfl (lv_at hl 1 rfl) ?_
    refine lv_iload_n hx hb dX8_good_19 rfl (lv_at hl 2 rfl) ?_
    refine lv_iadd hx hb dX8_good_20 ?_
    refine lv_sipush (v := 2048) hx hb dX8_good_21 (by decide) ?_
    refine lv_icmp_le (tgt := 31) hx hb dX8_good_24 (by decide) (fun c_34 => ?_) (fun c_34 => ?_)
    · skip
      rw [if_pos c_34] at hF
      rw [if_pos c_34] at hs
      refine lv_iconst (v := 0) hx hb dX8_good_31 (by decide) ?_
      refine lv_iconst (v := 5) hx hb dX8_good_32 (by decide) ?_
      refine q_Vv (rest := []) (c_X8_wrong l D a_this a_this_bytes a_this_keys a_this_reg a_this_card a_this_filled a_this_taken a_this_line a_this_one a_this_two w_33 false 5) cv_X8_wrong hx hb hml hown ht hN hK hA hP hD hS hl.1 (km_X8_42) ⟨Nat.le_of_ble_eq_true rfl, Nat.le_of_ble_eq_true rfl⟩ rfl rfl [0] (by decide) rfl [] rfl (fun _ => rfl) (ci := 8) rfl rfl rfl rfl rfl (Nat.le_of_ble_eq_true rfl) dX8_good_33 ⟨Nat.zero_le _, Nat.zero_le _⟩ (fun w_35 H locs hw hP hD hS => ?_)
      have hP : va_P D vwCl [(a_this, oX8 a_this_bytes a_this_keys a_this_reg a_this_card a_this_filled a_this_taken a_this_line a_this_one a_this_two w_35), (a_this_keys, .inl (k_this_keys, 8, .inl r_this_keys))] H := hP
      have hD : va_D A [(a_this, oX8 a_this_bytes a_this_keys a_this_reg a_this_card a_this_filled a_this_taken a_this_line a_this_one a_this_two w_35), (a_this_keys, .inl (k_this_keys, 8, .inl r_this_keys))] := hD
      rw [q_let_of hw] at hF
      rw [q_let_of hw] at hs
      refine lv_iconst (v := 0) hx hb dX8_good_36 (by decide) ?_
      refine lv_istore (lv' := [(5, .int 0), (0, .ref a_this), (1, .int p1), (2, .int p2), (3, .int p3), (4, .int (bI p4))]) hx hb dX8_good_37 hl (by decide) rfl (fun ls hl => ?_)
      have L39 : ∀ (fuel : Nat) (o_this_L39 : Int32 × Int32 × Int32 × Int32 × Bool × Bool × Int32 × Int32 × Int32 × Int32 × Bool × Bool × Bool × Int32 × Int32 × Int32 × Int32 × Int32 × Int32 × Int32 × Int32 × Int32 × Int32 × Int32 × Int32) (x5 : Int32) (H : Heap) (locs : List Loc) (ls : Array Slot), ((p2 : Int32).toInt - (x5 : Int32).toInt).toNat < fuel → va_P D vwCl [(a_this, oX8 a_this_bytes a_this_keys a_this_reg a_this_card a_this_filled a_this_taken a_this_line a_this_one a_this_two o_this_L39), (a_this_keys, .inl (k_this_keys, 8, .inl r_this_keys))] H → va_D A [(a_this, oX8 a_this_bytes a_this_keys a_this_reg a_this_card a_this_filled a_this_taken a_this_line a_this_one a_this_two o_this_L39), (a_this_keys, .inl (k_this_keys, 8, .inl r_this_keys))] → va_S A s.heap H locs → lv_has ls 6 [(5, .int x5), (0, .ref a_this), (1, .int p1), (2, .int p2), (3, .int p3), (4, .int (bI p4))] → f_X8_good_L39bb r_this_keys p1 p2 p4 fuel o_this_L39 x5 = F → s_X8_good_L39bb r_this_keys p1 p2 p4 fuel o_this_L39 x5 → W p l e ({ frames := 1, cells := 0, slots := 0, locals := 22 } : Room) s m ([.ref a_this, .int p1, .int p2, .int p3, .int (bI p4)] : List Value).toArray below meth c H locs 0 0 Q (F0 m 39 ls []) := by
        intro fuel
        induction fuel with
        | zero => intro o_this_L39 x5 H locs ls hm; exact absurd hm (Nat.not_lt_zero _)
        | succ fuel ih =>
          intro o_this_L39 x5 H locs ls hm  hP hD hS hl hF hs
          rw [f_X8_good_L39bb] at hF
          rw [s_X8_good_L39bb] at hs
          skip
          refine lv_iload hx hb dX8_good_39 (lv_at hl 0 rfl) ?_
          refine lv_iload_n hx hb dX8_good_41 rfl (lv_at hl 3 rfl) ?_
          refine lv_icmp_ge (tgt := 100) hx hb dX8_good_42 (by decide) (fun c_37 => ?_) (fun c_37 => ?_)
          · skip
            rw [if_pos c_37] at hF
            rw [if_pos c_37] at hs
            refine lv_aload_n hx hb dX8_good_100 rfl (lv_at hl 1 rfl) ?_
            refine gf_X8_38 (v := .int o_this_L39.2.2.2.2.2.2.2.2.1) hx hb hown ht hK hP 0 rfl rfl dX8_good_101 ?_
            refine lv_if_ne (tgt := 111) hx hb dX8_good_104 (by decide) (fun c_38 => ?_) (fun c_38 => ?_)
            · skip
              rw [if_neg c_38] at hF
              refine lv_iconst (v := 0) hx hb dX8_good_111 (by decide) ?_
              exact hQ false (false, o_this_L39) _ _ _ _ dX8_good_112 ⟨hF.symm, rfl⟩ hP hD hS
            · skip
              rw [if_pos c_38] at hF
              refine lv_iconst (v := 1) hx hb dX8_good_107 (by decide) ?_
              refine lv_goto (tgt := 112) hx hb dX8_good_108 (by decide) ?_
              exact hQ true (true, o_this_L39) _ _ _ _ dX8_good_112 ⟨hF.symm, rfl⟩ hP hD hS
          · skip
            rw [if_neg c_37] at hF
            rw [if_neg c_37] at hs
            refine lv_iload hx hb dX8_good_45 (lv_at hl 5 rfl) ?_
            refine lv_if_eq (tgt := 100) hx hb dX8_good_47 (by decide) (fun c_39 => ?_) (fun c_39 => ?_)
            · have c_39 : ¬ p4 = true := by rw [(bI_eq0 _).mp c_39]; decide
              rw [if_neg c_39] at hF
              rw [if_neg c_39] at hs
              refine lv_aload_n hx hb dX8_good_100 rfl (lv_at hl 1 rfl) ?_
              refine gf_X8_38 (v := .int o_this_L39.2.2.2.2.2.2.2.2.1) hx hb hown ht hK hP 0 rfl rfl dX8_good_101 ?_
              refine lv_if_ne (tgt := 111) hx hb dX8_good_104 (by decide) (fun c_40 => ?_) (fun c_40 => ?_)
              · skip
                rw [if_neg c_40] at hF
                refine lv_iconst (v := 0) hx hb dX8_good_111 (by decide) ?_
                exact hQ false (false, o_this_L39) _ _ _ _ dX8_good_112 ⟨hF.symm, rfl⟩ hP hD hS
              · skip
                rw [if_pos c_40] at hF
                refine lv_iconst (v := 1) hx hb dX8_good_107 (by decide) ?_
                refine lv_goto (tgt := 112) hx hb dX8_good_108 (by decide) ?_
                exact hQ true (true, o_this_L39) _ _ _ _ dX8_good_112 ⟨hF.symm, rfl⟩ hP hD hS
            · have c_39 := (bI_ne0 _).mp c_39
              rw [if_pos c_39] at hF
              rw [if_pos c_39] at hs
              refine lv_aload_n hx hb dX8_good_50 rfl (lv_at hl 1 rfl) ?_
              refine gf_X8_46 (v := .int o_this_L39.2.1) hx hb hown ht hK hP 0 rfl rfl dX8_good_51 ?_
              refine lv_if_eq (tgt := 100) hx hb dX8_good_54 (by decide) (fun c_41 => ?_) (fun c_41 => ?_)
              · skip
                rw [if_pos c_41] at hF
                rw [if_pos c_41] at hs
                refine lv_aload_n hx hb dX8_good_100 rfl (lv_at hl 1 rfl) ?_
                refine gf_X8_38 (v := .int o_this_L39.2.2.2.2.2.2.2.2.1) hx hb hown ht hK hP 0 rfl rfl dX8_good_101 ?_
                refine lv_if_ne (tgt := 111) hx hb dX8_good_104 (by decide) (fun c_42 => ?_) (fun c_42 => ?_)
                · skip
                  rw [if_neg c_42] at hF
                  refine lv_iconst (v := 0) hx hb dX8_good_111 (by decide) ?_
                  exact hQ false (false, o_this_L39) _ _ _ _ dX8_good_112 ⟨hF.symm, rfl⟩ hP hD hS
                · skip
                  rw [if_pos c_42] at hF
                  refine lv_iconst (v := 1) hx hb dX8_good_107 (by decide) ?_
                  refine lv_goto (tgt := 112) hx hb dX8_good_108 (by decide) ?_
                  exact hQ true (true, o_this_L39) _ _ _ _ dX8_good_112 ⟨hF.symm, rfl⟩ hP hD hS
              · skip
                rw [if_neg c_41] at hF
                rw [if_neg c_41] at hs
                refine lv_aload_n hx hb dX8_good_57 rfl (lv_at hl 1 rfl) ?_
                refine gf_X8_38 (v := .int o_this_L39.2.2.2.2.2.2.2.2.1) hx hb hown ht hK hP 0 rfl rfl dX8_good_58 ?_
                refine lv_if_ne (tgt := 100) hx hb dX8_good_61 (by decide) (fun c_43 => ?_) (fun c_43 => ?_)
                · skip
                  rw [if_neg c_43] at hF
                  rw [if_neg c_43] at hs
                  refine lv_aload_n hx hb dX8_good_100 rfl (lv_at hl 1 rfl) ?_
                  refine gf_X8_38 (v := .int o_this_L39.2.2.2.2.2.2.2.2.1) hx hb hown ht hK hP 0 rfl rfl dX8_good_101 ?_
                  refine lv_if_ne (tgt := 111) hx hb dX8_good_104 (by decide) (fun c_44 => ?_) (fun c_44 => ?_)
                  · skip
                    rw [if_neg c_44] at hF
                    refine lv_iconst (v := 0) hx hb dX8_good_111 (by decide) ?_
                    exact hQ false (false, o_this_L39) _ _ _ _ dX8_good_112 ⟨hF.symm, rfl⟩ hP hD hS
                  · skip
                    rw [if_pos c_44] at hF
                    refine lv_iconst (v := 1) hx hb dX8_good_107 (by decide) ?_
                    refine lv_goto (tgt := 112) hx hb dX8_good_108 (by decide) ?_
                    exact hQ true (true, o_this_L39) _ _ _ _ dX8_good_112 ⟨hF.symm, rfl⟩ hP hD hS
                · skip
                  rw [if_pos c_43] at hF
                  rw [if_pos c_43] at hs
                  refine lv_aload_n hx hb dX8_good_64 rfl (lv_at hl 1 rfl) ?_
                  refine lv_aload_n hx hb dX8_good_65 rfl (lv_at hl 1 rfl) ?_
                  refine gf_X8_13 (v := .ref a_this_keys) hx hb hown ht hK hP 0 rfl rfl dX8_good_66 ?_
                  refine lv_iload_n hx hb dX8_good_69 rfl (lv_at hl 2 rfl) ?_
                  refine lv_iload hx hb dX8_good_70 (lv_at hl 0 rfl) ?_
                  refine lv_iadd hx hb dX8_good_72 ?_
                  refine lv_sipush (v := 256) hx hb dX8_good_73 (by decide) ?_
                  refine lv_idiv hx hb dX8_good_76 (by decide) ?_
                  obtain ⟨hi_45, hs⟩ := hs
                  refine va_iald hx hb hK hP 1 0 rfl rfl hi_45 dX8_good_77 ?_
                  refine lv_aload_n hx hb dX8_good_78 rfl (lv_at hl 1 rfl) ?_
                  refine gf_X8_46 (v := .int o_this_L39.2.1) hx hb hown ht hK hP 0 rfl rfl dX8_good_79 ?_
                  refine lv_icmp_eq (tgt := 89) hx hb dX8_good_82 (by decide) (fun c_46 => ?_) (fun c_46 => ?_)
                  · skip
                    rw [if_pos c_46] at hF
                    rw [if_pos c_46] at hs
                    refine lv_iconst (v := 0) hx hb dX8_good_89 (by decide) ?_
                    refine lv_iconst (v := 4) hx hb dX8_good_90 (by decide) ?_
                    refine q_Vv (rest := []) (c_X8_wrong l D a_this a_this_bytes a_this_keys a_this_reg a_this_card a_this_filled a_this_taken a_this_line a_this_one a_this_two o_this_L39 false 4) cv_X8_wrong hx hb hml hown ht hN hK hA hP hD hS hl.1 (km_X8_42) ⟨Nat.le_of_ble_eq_true rfl, Nat.le_of_ble_eq_true rfl⟩ rfl rfl [0] (by decide) rfl [] rfl (fun _ => rfl) (ci := 8) rfl rfl rfl rfl rfl (Nat.le_of_ble_eq_true rfl) dX8_good_91 ⟨Nat.zero_le _, Nat.zero_le _⟩ (fun w_47 H locs hw hP hD hS => ?_)
                    have hP : va_P D vwCl [(a_this, oX8 a_this_bytes a_this_keys a_this_reg a_this_card a_this_filled a_this_taken a_this_line a_this_one a_this_two w_47), (a_this_keys, .inl (k_this_keys, 8, .inl r_this_keys))] H := hP
                    have hD : va_D A [(a_this, oX8 a_this_bytes a_this_keys a_this_reg a_this_card a_this_filled a_this_taken a_this_line a_this_one a_this_two w_47), (a_this_keys, .inl (k_this_keys, 8, .inl r_this_keys))] := hD
                    rw [q_let_of hw] at hF
                    rw [q_let_of hw] at hs
                    refine lv_iinc (v := (x5 + (1 : Int32))) (lv' := [(5, .int (x5 + (1 : Int32))), (0, .ref a_this), (1, .int p1), (2, .int p2), (3, .int p3), (4, .int (bI p4))]) hx hb dX8_good_94 hl (k := 0) rfl rfl (by decide) rfl (fun ls hl => ?_)
                    refine lv_goto (tgt := 39) hx hb dX8_good_97 (by decide) ?_
                    exact ih w_47 (x5 + (1 : Int32)) _ _ _ (by first | exact q_up hm c_2 | exact q_up hm c_34 | exact q_up hm c_37 | exact q_up hm c_39 | exact q_up hm c_41 | exact q_up hm c_43 | exact q_up hm c_46)  hP hD hS (lv_sub hl [0, 1, 2, 3, 4, 5] rfl) hF hs
                  · skip
                    rw [if_neg c_46] at hF
                    rw [if_neg c_46] at hs
                    refine lv_iconst (v := 1) hx hb dX8_good_85 (by decide) ?_
                    refine lv_goto (tgt := 90) hx hb dX8_good_86 (by decide) ?_
                    refine lv_iconst (v := 4) hx hb dX8_good_90 (by decide) ?_
                    refine q_Vv (rest := []) (c_X8_wrong l D a_this a_this_bytes a_this_keys a_this_reg a_this_card a_this_filled a_this_taken a_this_line a_this_one a_this_two o_this_L39 true 4) cv_X8_wrong hx hb hml hown ht hN hK hA hP hD hS hl.1 (km_X8_42) ⟨Nat.le_of_ble_eq_true rfl, Nat.le_of_ble_eq_true rfl⟩ rfl rfl [0] (by decide) rfl [] rfl (fun _ => rfl) (ci := 8) rfl rfl rfl rfl rfl (Nat.le_of_ble_eq_true rfl) dX8_good_91 ⟨Nat.zero_le _, Nat.zero_le _⟩ (fun w_48 H locs hw hP hD hS => ?_)
                    have hP : va_P D vwCl [(a_this, oX8 a_this_bytes a_this_keys a_this_reg a_this_card a_this_filled a_this_taken a_this_line a_this_one a_this_two w_48), (a_this_keys, .inl (k_this_keys, 8, .inl r_this_keys))] H := hP
                    have hD : va_D A [(a_this, oX8 a_this_bytes a_this_keys a_this_reg a_this_card a_this_filled a_this_taken a_this_line a_this_one a_this_two w_48), (a_this_keys, .inl (k_this_keys, 8, .inl r_this_keys))] := hD
                    rw [q_let_of hw] at hF
                    rw [q_let_of hw] at hs
                    refine lv_iinc (v := (x5 + (1 : Int32))) (lv' := [(5, .int (x5 + (1 : Int32))), (0, .ref a_this), (1, .int p1), (2, .int p2), (3, .int p3), (4, .int (bI p4))]) hx hb dX8_good_94 hl (k := 0) rfl rfl (by decide) rfl (fun ls hl => ?_)
                    refine lv_goto (tgt := 39) hx hb dX8_good_97 (by decide) ?_
                    exact ih w_48 (x5 + (1 : Int32)) _ _ _ (by first | exact q_up hm c_2 | exact q_up hm c_34 | exact q_up hm c_37 | exact q_up hm c_39 | exact q_up hm c_41 | exact q_up hm c_43 | exact q_up hm c_46)  hP hD hS (lv_sub hl [0, 1, 2, 3, 4, 5] rfl) hF hs
      exact L39 (((p2 : Int32).toInt - (0 : Int32).toInt).toNat + 1) w_35 0 _ _ _ (Nat.lt_succ_self _)  hP hD hS (lv_sub hl [0, 1, 2, 3, 4, 5] rfl) hF hs
    · skip
      rw [if_neg c_34] at hF
      rw [if_neg c_34] at hs
      refine lv_iconst (v := 1) hx hb dX8_good_27 (by decide) ?_
      refine lv_goto (tgt := 32) hx hb dX8_good_28 (by decide) ?_
      refine lv_iconst (v := 5) hx hb dX8_good_32 (by decide) ?_
      refine q_Vv (rest := []) (c_X8_wrong l D a_this a_this_bytes a_this_keys a_this_reg a_this_card a_this_filled a_this_taken a_this_line a_this_one a_this_two w_33 true 5) cv_X8_wrong hx hb hml hown ht hN hK hA hP hD hS hl.1 (km_X8_42) ⟨Nat.le_of_ble_eq_true rfl, Nat.le_of_ble_eq_true rfl⟩ rfl rfl [0] (by decide) rfl [] rfl (fun _ => rfl) (ci := 8) rfl rfl rfl rfl rfl (Nat.le_of_ble_eq_true rfl) dX8_good_33 ⟨Nat.zero_le _, Nat.zero_le _⟩ (fun w_49 H locs hw hP hD hS => ?_)
      have hP : va_P D vwCl [(a_this, oX8 a_this_bytes a_this_keys a_this_reg a_this_card a_this_filled a_this_taken a_this_line a_this_one a_this_two w_49), (a_this_keys, .inl (k_this_keys, 8, .inl r_this_keys))] H := hP
      have hD : va_D A [(a_this, oX8 a_this_bytes a_this_keys a_this_reg a_this_card a_this_filled a_this_taken a_this_line a_this_one a_this_two w_49), (a_this_keys, .inl (k_this_keys, 8, .inl r_this_keys))] := hD
      rw [q_let_of hw] at hF
      rw [q_let_of hw] at hs
      refine lv_iconst (v := 0) hx hb dX8_good_36 (by decide) ?_
      refine lv_istore (lv' := [(5, .int 0), (0, .ref a_this), (1, .int p1), (2, .int p2), (3, .int p3), (4, .int (bI p4))]) hx hb dX8_good_37 hl (by decide) rfl (fun ls hl => ?_)
      have L39 : ∀ (fuel : Nat) (o_this_L39 : Int32 × Int32 × Int32 × Int32 × Bool × Bool × Int32 × Int32 × Int32 × Int32 × Bool × Bool × Bool × Int32 × Int32 × Int32 × Int32 × Int32 × Int32 × Int32 × Int32 × Int32 × Int32 × Int32 × Int32) (x5 : Int32) (H : Heap) (locs : List Loc) (ls : Array Slot), ((p2 : Int32).toInt - (x5 : Int32).toInt).toNat < fuel → va_P D vwCl [(a_this, oX8 a_this_bytes a_this_keys a_this_reg a_this_card a_this_filled a_this_taken a_this_line a_this_one a_this_two o_this_L39), (a_this_keys, .inl (k_this_keys, 8, .inl r_this_keys))] H → va_D A [(a_this, oX8 a_this_bytes a_this_keys a_this_reg a_this_card a_this_filled a_this_taken a_this_line a_this_one a_this_two o_this_L39), (a_this_keys, .inl (k_this_keys, 8, .inl r_this_keys))] → va_S A s.heap H locs → lv_has ls 6 [(5, .int x5), (0, .ref a_this), (1, .int p1), (2, .int p2), (3, .int p3), (4, .int (bI p4))] → f_X8_good_L39bbb r_this_keys p1 p2 p4 fuel o_this_L39 x5 = F → s_X8_good_L39bbb r_this_keys p1 p2 p4 fuel o_this_L39 x5 → W p l e ({ frames := 1, cells := 0, slots := 0, locals := 22 } : Room) s m ([.ref a_this, .int p1, .int p2, .int p3, .int (bI p4)] : List Value).toArray below meth c H locs 0 0 Q (F0 m 39 ls []) := by
        intro fuel
        induction fuel with
        | zero => intro o_this_L39 x5 H locs ls hm; exact absurd hm (Nat.not_lt_zero _)
        | succ fuel ih =>
          intro o_this_L39 x5 H locs ls hm  hP hD hS hl hF hs
          rw [f_X8_good_L39bbb] at hF
          rw [s_X8_good_L39bbb] at hs
          skip
          refine lv_iload hx hb dX8_good_39 (lv_at hl 0 rfl) ?_
          refine lv_iload_n hx hb dX8_good_41 rfl (lv_at hl 3 rfl) ?_
          refine lv_icmp_ge (tgt := 100) hx hb dX8_good_42 (by decide) (fun c_51 => ?_) (fun c_51 => ?_)
          · skip
            rw [if_pos c_51] at hF
            rw [if_pos c_51] at hs
            refine lv_aload_n hx hb dX8_good_100 rfl (lv_at hl 1 rfl) ?_
            refine gf_X8_38 (v := .int o_this_L39.2.2.2.2.2.2.2.2.1) hx hb hown ht hK hP 0 rfl rfl dX8_good_101 ?_
            refine lv_if_ne (tgt := 111) hx hb dX8_good_104 (by decide) (fun c_52 => ?_) (fun c_52 => ?_)
            · skip
              rw [if_neg c_52] at hF
              refine lv_iconst (v := 0) hx hb dX8_good_111 (by decide) ?_
              exact hQ false (false, o_this_L39) _ _ _ _ dX8_good_112 ⟨hF.symm, rfl⟩ hP hD hS
            · skip
              rw [if_pos c_52] at hF
              refine lv_iconst (v := 1) hx hb dX8_good_107 (by decide) ?_
              refine lv_goto (tgt := 112) hx hb dX8_good_108 (by decide) ?_
              exact hQ true (true, o_this_L39) _ _ _ _ dX8_good_112 ⟨hF.symm, rfl⟩ hP hD hS
          · skip
            rw [if_neg c_51] at hF
            rw [if_neg c_51] at hs
            refine lv_iload hx hb dX8_good_45 (lv_at hl 5 rfl) ?_
            refine lv_if_eq (tgt := 100) hx hb dX8_good_47 (by decide) (fun c_53 => ?_) (fun c_53 => ?_)
            · have c_53 : ¬ p4 = true := by rw [(bI_eq0 _).mp c_53]; decide
              rw [if_neg c_53] at hF
              rw [if_neg c_53] at hs
              refine lv_aload_n hx hb dX8_good_100 rfl (lv_at hl 1 rfl) ?_
              refine gf_X8_38 (v := .int o_this_L39.2.2.2.2.2.2.2.2.1) hx hb hown ht hK hP 0 rfl rfl dX8_good_101 ?_
              refine lv_if_ne (tgt := 111) hx hb dX8_good_104 (by decide) (fun c_54 => ?_) (fun c_54 => ?_)
              · skip
                rw [if_neg c_54] at hF
                refine lv_iconst (v := 0) hx hb dX8_good_111 (by decide) ?_
                exact hQ false (false, o_this_L39) _ _ _ _ dX8_good_112 ⟨hF.symm, rfl⟩ hP hD hS
              · skip
                rw [if_pos c_54] at hF
                refine lv_iconst (v := 1) hx hb dX8_good_107 (by decide) ?_
                refine lv_goto (tgt := 112) hx hb dX8_good_108 (by decide) ?_
                exact hQ true (true, o_this_L39) _ _ _ _ dX8_good_112 ⟨hF.symm, rfl⟩ hP hD hS
            · have c_53 := (bI_ne0 _).mp c_53
              rw [if_pos c_53] at hF
              rw [if_pos c_53] at hs
              refine lv_aload_n hx hb dX8_good_50 rfl (lv_at hl 1 rfl) ?_
              refine gf_X8_46 (v := .int o_this_L39.2.1) hx hb hown ht hK hP 0 rfl rfl dX8_good_51 ?_
              refine lv_if_eq (tgt := 100) hx hb dX8_good_54 (by decide) (fun c_55 => ?_) (fun c_55 => ?_)
              · skip
                rw [if_pos c_55] at hF
                rw [if_pos c_55] at hs
                refine lv_aload_n hx hb dX8_good_100 rfl (lv_at hl 1 rfl) ?_
                refine gf_X8_38 (v := .int o_this_L39.2.2.2.2.2.2.2.2.1) hx hb hown ht hK hP 0 rfl rfl dX8_good_101 ?_
                refine lv_if_ne (tgt := 111) hx hb dX8_good_104 (by decide) (fun c_56 => ?_) (fun c_56 => ?_)
                · skip
                  rw [if_neg c_56] at hF
                  refine lv_iconst (v := 0) hx hb dX8_good_111 (by decide) ?_
                  exact hQ false (false, o_this_L39) _ _ _ _ dX8_good_112 ⟨hF.symm, rfl⟩ hP hD hS
                · skip
                  rw [if_pos c_56] at hF
                  refine lv_iconst (v := 1) hx hb dX8_good_107 (by decide) ?_
                  refine lv_goto (tgt := 112) hx hb dX8_good_108 (by decide) ?_
                  exact hQ true (true, o_this_L39) _ _ _ _ dX8_good_112 ⟨hF.symm, rfl⟩ hP hD hS
              · skip
                rw [if_neg c_55] at hF
                rw [if_neg c_55] at hs
                refine lv_aload_n hx hb dX8_good_57 rfl (lv_at hl 1 rfl) ?_
                refine gf_X8_38 (v := .int o_this_L39.2.2.2.2.2.2.2.2.1) hx hb hown ht hK hP 0 rfl rfl dX8_good_58 ?_
                refine lv_if_ne (tgt := 100) hx hb dX8_good_61 (by decide) (fun c_57 => ?_) (fun c_57 => ?_)
                · skip
                  rw [if_neg c_57] at hF
                  rw [if_neg c_57] at hs
                  refine lv_aload_n hx hb dX8_good_100 rfl (lv_at hl 1 rfl) ?_
                  refine gf_X8_38 (v := .int o_this_L39.2.2.2.2.2.2.2.2.1) hx hb hown ht hK hP 0 rfl rfl dX8_good_101 ?_
                  refine lv_if_ne (tgt := 111) hx hb dX8_good_104 (by decide) (fun c_58 => ?_) (fun c_58 => ?_)
                  · skip
                    rw [if_neg c_58] at hF
                    refine lv_iconst (v := 0) hx hb dX8_good_111 (by decide) ?_
                    exact hQ false (false, o_this_L39) _ _ _ _ dX8_good_112 ⟨hF.symm, rfl⟩ hP hD hS
                  · skip
                    rw [if_pos c_58] at hF
                    refine lv_iconst (v := 1) hx hb dX8_good_107 (by decide) ?_
                    refine lv_goto (tgt := 112) hx hb dX8_good_108 (by decide) ?_
                    exact hQ true (true, o_this_L39) _ _ _ _ dX8_good_112 ⟨hF.symm, rfl⟩ hP hD hS
                · skip
                  rw [if_pos c_57] at hF
                  rw [if_pos c_57] at hs
                  refine lv_aload_n hx hb dX8_good_64 rfl (lv_at hl 1 rfl) ?_
                  refine lv_aload_n hx hb dX8_good_65 rfl (lv_at hl 1 rfl) ?_
                  refine gf_X8_13 (v := .ref a_this_keys) hx hb hown ht hK hP 0 rfl rfl dX8_good_66 ?_
                  refine lv_iload_n hx hb dX8_good_69 rfl (lv_at hl 2 rfl) ?_
                  refine lv_iload hx hb dX8_good_70 (lv_at hl 0 rfl) ?_
                  refine lv_iadd hx hb dX8_good_72 ?_
                  refine lv_sipush (v := 256) hx hb dX8_good_73 (by decide) ?_
                  refine lv_idiv hx hb dX8_good_76 (by decide) ?_
                  obtain ⟨hi_59, hs⟩ := hs
                  refine va_iald hx hb hK hP 1 0 rfl rfl hi_59 dX8_good_77 ?_
                  refine lv_aload_n hx hb dX8_good_78 rfl (lv_at hl 1 rfl) ?_
                  refine gf_X8_46 (v := .int o_this_L39.2.1) hx hb hown ht hK hP 0 rfl rfl dX8_good_79 ?_
                  refine lv_icmp_eq (tgt := 89) hx hb dX8_good_82 (by decide) (fun c_60 => ?_) (fun c_60 => ?_)
                  · skip
                    rw [if_pos c_60] at hF
                    rw [if_pos c_60] at hs
                    refine lv_iconst (v := 0) hx hb dX8_good_89 (by decide) ?_
                    refine lv_iconst (v := 4) hx hb dX8_good_90 (by decide) ?_
                    refine q_Vv (rest := []) (c_X8_wrong l D a_this a_this_bytes a_this_keys a_this_reg a_this_card a_this_filled a_this_taken a_this_line a_this_one a_this_two o_this_L39 false 4) cv_X8_wrong hx hb hml hown ht hN hK hA hP hD hS hl.1 (km_X8_42) ⟨Nat.le_of_ble_eq_true rfl, Nat.le_of_ble_eq_true rfl⟩ rfl rfl [0] (by decide) rfl [] rfl (fun _ => rfl) (ci := 8) rfl rfl rfl rfl rfl (Nat.le_of_ble_eq_true rfl) dX8_good_91 ⟨Nat.zero_le _, Nat.zero_le _⟩ (fun w_61 H locs hw hP hD hS => ?_)
                    have hP : va_P D vwCl [(a_this, oX8 a_this_bytes a_this_keys a_this_reg a_this_card a_this_filled a_this_taken a_this_line a_this_one a_this_two w_61), (a_this_keys, .inl (k_this_keys, 8, .inl r_this_keys))] H := hP
                    have hD : va_D A [(a_this, oX8 a_this_bytes a_this_keys a_this_reg a_this_card a_this_filled a_this_taken a_this_line a_this_one a_this_two w_61), (a_this_keys, .inl (k_this_keys, 8, .inl r_this_keys))] := hD
                    rw [q_let_of hw] at hF
                    rw [q_let_of hw] at hs
                    refine lv_iinc (v := (x5 + (1 : Int32))) (lv' := [(5, .int (x5 + (1 : Int32))), (0, .ref a_this), (1, .int p1), (2, .int p2), (3, .int p3), (4, .int (bI p4))]) hx hb dX8_good_94 hl (k := 0) rfl rfl (by decide) rfl (fun ls hl => ?_)
                    refine lv_goto (tgt := 39) hx hb dX8_good_97 (by decide) ?_
                    exact ih w_61 (x5 + (1 : Int32)) _ _ _ (by first | exact q_up hm c_2 | exact q_up hm c_34 | exact q_up hm c_51 | exact q_up hm c_53 | exact q_up hm c_55 | exact q_up hm c_57 | exact q_up hm c_60)  hP hD hS (lv_sub hl [0, 1, 2, 3, 4, 5] rfl) hF hs
                  · skip
                    rw [if_neg c_60] at hF
                    rw [if_neg c_60] at hs
                    refine lv_iconst (v := 1) hx hb dX8_good_85 (by decide) ?_
                    refine lv_goto (tgt := 90) hx hb dX8_good_86 (by decide) ?_
                    refine lv_iconst (v := 4) hx hb dX8_good_90 (by decide) ?_
                    refine q_Vv (rest := []) (c_X8_wrong l D a_this a_this_bytes a_this_keys a_this_reg a_this_card a_this_filled a_this_taken a_this_line a_this_one a_this_two o_this_L39 true 4) cv_X8_wrong hx hb hml hown ht hN hK hA hP hD hS hl.1 (km_X8_42) ⟨Nat.le_of_ble_eq_true rfl, Nat.le_of_ble_eq_true rfl⟩ rfl rfl [0] (by decide) rfl [] rfl (fun _ => rfl) (ci := 8) rfl rfl rfl rfl rfl (Nat.le_of_ble_eq_true rfl) dX8_good_91 ⟨Nat.zero_le _, Nat.zero_le _⟩ (fun w_62 H locs hw hP hD hS => ?_)
                    have hP : va_P D vwCl [(a_this, oX8 a_this_bytes a_this_keys a_this_reg a_this_card a_this_filled a_this_taken a_this_line a_this_one a_this_two w_62), (a_this_keys, .inl (k_this_keys, 8, .inl r_this_keys))] H := hP
                    have hD : va_D A [(a_this, oX8 a_this_bytes a_this_keys a_this_reg a_this_card a_this_filled a_this_taken a_this_line a_this_one a_this_two w_62), (a_this_keys, .inl (k_this_keys, 8, .inl r_this_keys))] := hD
                    rw [q_let_of hw] at hF
                    rw [q_let_of hw] at hs
                    refine lv_iinc (v := (x5 + (1 : Int32))) (lv' := [(5, .int (x5 + (1 : Int32))), (0, .ref a_this), (1, .int p1), (2, .int p2), (3, .int p3), (4, .int (bI p4))]) hx hb dX8_good_94 hl (k := 0) rfl rfl (by decide) rfl (fun ls hl => ?_)
                    refine lv_goto (tgt := 39) hx hb dX8_good_97 (by decide) ?_
                    exact ih w_62 (x5 + (1 : Int32)) _ _ _ (by first | exact q_up hm c_2 | exact q_up hm c_34 | exact q_up hm c_51 | exact q_up hm c_53 | exact q_up hm c_55 | exact q_up hm c_57 | exact q_up hm c_60)  hP hD hS (lv_sub hl [0, 1, 2, 3, 4, 5] rfl) hF hs
      exact L39 (((p2 : Int32).toInt - (0 : Int32).toInt).toNat + 1) w_49 0 _ _ _ (Nat.lt_succ_self _)  hP hD hS (lv_sub hl [0, 1, 2, 3, 4, 5] rfl) hF hs
theorem cv_X8_good : qV yX8_good cX8_good 6 (some .boolean) 4 := ⟨kc_X8_good, kt_X8_good, ks_X8_good, kn_X8, by decide, by decide +kernel⟩
def f_X8_loadStatus (o_this : Int32 × Int32 × Int32 × Int32 × Bool × Bool × Int32 × Int32 × Int32 × Int32 × Bool × Bool × Bool × Int32 × Int32 × Int32 × Int32 × Int32 × Int32 × Int32 × Int32 × Int32 × Int32 × Int32 × Int32) (r_this_bytes : Nat → Int32) (p1 : Int32) : Int32 × Int32 × Int32 × Int32 × Bool × Bool × Int32 × Int32 × Int32 × Int32 × Bool × Bool × Bool × Int32 × Int32 × Int32 × Int32 × Int32 × Int32 × Int32 × Int32 × Int32 × Int32 × Int32 × Int32 := (q_let ((r_this_bytes p1.toNatClampNeg) &&& (31 : Int32)) fun y_2 => (q_let ((r_this_bytes (p1 + (1 : Int32)).toNatClampNeg) / (16 : Int32)) fun y_4 => (q_let ((r_this_bytes (p1 + (1 : Int32)).toNatClampNeg) &&& (3 : Int32)) fun y_6 => (q_let (f_X8_field r_this_bytes (p1 + (6 : Int32)) 2) fun y_9 => (y_2, y_4, y_6, y_9, o_this.2.2.2.2.1, o_this.2.2.2.2.2.1, o_this.2.2.2.2.2.2.1, o_this.2.2.2.2.2.2.2.1, o_this.2.2.2.2.2.2.2.2.1, o_this.2.2.2.2.2.2.2.2.2.1, o_this.2.2.2.2.2.2.2.2.2.2.1, o_this.2.2.2.2.2.2.2.2.2.2.2.1, o_this.2.2.2.2.2.2.2.2.2.2.2.2.1, o_this.2.2.2.2.2.2.2.2.2.2.2.2.2.1, o_this.2.2.2.2.2.2.2.2.2.2.2.2.2.2.1, o_this.2.2.2.2.2.2.2.2.2.2.2.2.2.2.2.1, o_this.2.2.2.2.2.2.2.2.2.2.2.2.2.2.2.2.1, o_this.2.2.2.2.2.2.2.2.2.2.2.2.2.2.2.2.2.1, o_this.2.2.2.2.2.2.2.2.2.2.2.2.2.2.2.2.2.2.1, o_this.2.2.2.2.2.2.2.2.2.2.2.2.2.2.2.2.2.2.2.1, o_this.2.2.2.2.2.2.2.2.2.2.2.2.2.2.2.2.2.2.2.2.1, o_this.2.2.2.2.2.2.2.2.2.2.2.2.2.2.2.2.2.2.2.2.2.1, o_this.2.2.2.2.2.2.2.2.2.2.2.2.2.2.2.2.2.2.2.2.2.2.1, o_this.2.2.2.2.2.2.2.2.2.2.2.2.2.2.2.2.2.2.2.2.2.2.2.1, o_this.2.2.2.2.2.2.2.2.2.2.2.2.2.2.2.2.2.2.2.2.2.2.2.2)))))
def s_X8_loadStatus (r_this_bytes : Nat → Int32) (p1 : Int32) : Prop := (vp_in p1 2048 ∧ (q_let ((r_this_bytes p1.toNatClampNeg) &&& (31 : Int32)) fun y_2 => (vp_in (p1 + (1 : Int32)) 2048 ∧ (q_let ((r_this_bytes (p1 + (1 : Int32)).toNatClampNeg) / (16 : Int32)) fun y_4 => (vp_in (p1 + (1 : Int32)) 2048 ∧ (q_let ((r_this_bytes (p1 + (1 : Int32)).toNatClampNeg) &&& (3 : Int32)) fun y_6 => s_X8_field r_this_bytes (p1 + (6 : Int32)) 2))))))
set_option linter.all false in
set_option maxHeartbeats 4000000 in
set_option maxRecDepth 100000 in
theorem c_X8_loadStatus (l : Launch) (D : va_G) (a_this a_this_bytes a_this_keys a_this_reg a_this_card a_this_filled a_this_taken a_this_line a_this_one a_this_two : Nat) (k_this_bytes : ClassId) (o_this : Int32 × Int32 × Int32 × Int32 × Bool × Bool × Int32 × Int32 × Int32 × Int32 × Bool × Bool × Bool × Int32 × Int32 × Int32 × Int32 × Int32 × Int32 × Int32 × Int32 × Int32 × Int32 × Int32 × Int32) (r_this_bytes : Nat → Int32) (p1 : Int32) (hs : s_X8_loadStatus r_this_bytes p1) : CtV l yX8_loadStatus cX8_loadStatus 2 none { frames := 1, cells := 0, slots := 0, locals := 24 } D [.ref a_this, .int p1] [(a_this, oX8 a_this_bytes a_this_keys a_this_reg a_this_card a_this_filled a_this_taken a_this_line a_this_one a_this_two o_this), (a_this_bytes, .inl (k_this_bytes, 2048, .inl r_this_bytes))] [(k_this_bytes, .int)] (fun (u : Int32 × Int32 × Int32 × Int32 × Bool × Bool × Int32 × Int32 × Int32 × Int32 × Bool × Bool × Bool × Int32 × Int32 × Int32 × Int32 × Int32 × Int32 × Int32 × Int32 × Int32 × Int32 × Int32 × Int32) => f_X8_loadStatus o_this r_this_bytes p1 = u) (fun u => [(a_this, oX8 a_this_bytes a_this_keys a_this_reg a_this_card a_this_filled a_this_taken a_this_line a_this_one a_this_two u), (a_this_bytes, .inl (k_this_bytes, 2048, .inl r_this_bytes))]) := by
  refine CtV.of (by decide) (Nat.le_of_ble_eq_true rfl) ?_
  intro p e s m below meth c A ls Q hE hP hD hS hl hQ
  obtain ⟨hx, hb, hml, hown, ht, hN, hK, hA⟩ := hE
  have hown : s.vm.findClass RX8 = some m.cls := hown
  have hl : lv_has ls 2 [(0, .ref a_this), (1, .int p1)] := hl
  obtain ⟨F, hF⟩ : ∃ F, f_X8_loadStatus o_this r_this_bytes p1 = F := ⟨_, rfl⟩
  rw [hF] at hQ
  unfold f_X8_loadStatus at hF
  unfold s_X8_loadStatus at hs
  refine lv_aload_n hx hb dX8_loadStatus_0 rfl (lv_at hl 0 rfl) ?_
  refine lv_aload_n hx hb dX8_loadStatus_1 rfl (lv_at hl 0 rfl) ?_
  refine gf_X8_7 (v := .ref a_this_bytes) hx hb hown ht hK hP 0 rfl rfl dX8_loadStatus_2 ?_
  refine lv_iload_n hx hb dX8_loadStatus_5 rfl (lv_at hl 1 rfl) ?_
  obtain ⟨hi_1, hs⟩ := hs
  refine va_iald hx hb hK hP 1 0 rfl rfl hi_1 dX8_loadStatus_6 ?_
  refine lv_bipush (v := 31) hx hb dX8_loadStatus_7 (by decide) ?_
  refine lv_iand hx hb dX8_loadStatus_9 ?_
  refine lv_topi (fun y_2 hy => ?_)
  rw [q_let_of hy.symm] at hF
  rw [q_let_of hy.symm] at hs
  clear hy
  refine pf_X8_49 (x := y_2) hx hb hown ht hK hP hD hS 0 rfl (Nat.le_of_ble_eq_true rfl) dX8_loadStatus_10 (fun H locs hP hD hS => ?_)
  have hP : va_P D vwCl [(a_this, oX8 a_this_bytes a_this_keys a_this_reg a_this_card a_this_filled a_this_taken a_this_line a_this_one a_this_two (y_2, o_this.2.1, o_this.2.2.1, o_this.2.2.2.1, o_this.2.2.2.2.1, o_this.2.2.2.2.2.1, o_this.2.2.2.2.2.2.1, o_this.2.2.2.2.2.2.2.1, o_this.2.2.2.2.2.2.2.2.1, o_this.2.2.2.2.2.2.2.2.2.1, o_this.2.2.2.2.2.2.2.2.2.2.1, o_this.2.2.2.2.2.2.2.2.2.2.2.1, o_this.2.2.2.2.2.2.2.2.2.2.2.2.1, o_this.2.2.2.2.2.2.2.2.2.2.2.2.2.1, o_this.2.2.2.2.2.2.2.2.2.2.2.2.2.2.1, o_this.2.2.2.2.2.2.2.2.2.2.2.2.2.2.2.1, o_this.2.2.2.2.2.2.2.2.2.2.2.2.2.2.2.2.1, o_this.2.2.2.2.2.2.2.2.2.2.2.2.2.2.2.2.2.1, o_this.2.2.2.2.2.2.2.2.2.2.2.2.2.2.2.2.2.2.1, o_this.2.2.2.2.2.2.2.2.2.2.2.2.2.2.2.2.2.2.2.1, o_this.2.2.2.2.2.2.2.2.2.2.2.2.2.2.2.2.2.2.2.2.1, o_this.2.2.2.2.2.2.2.2.2.2.2.2.2.2.2.2.2.2.2.2.2.1, o_this.2.2.2.2.2.2.2.2.2.2.2.2.2.2.2.2.2.2.2.2.2.2.1, o_this.2.2.2.2.2.2.2.2.2.2.2.2.2.2.2.2.2.2.2.2.2.2.2.1, o_this.2.2.2.2.2.2.2.2.2.2.2.2.2.2.2.2.2.2.2.2.2.2.2.2)), (a_this_bytes, .inl (k_this_bytes, 2048, .inl r_this_bytes))] H := hP
  have hD : va_D A [(a_this, oX8 a_this_bytes a_this_keys a_this_reg a_this_card a_this_filled a_this_taken a_this_line a_this_one a_this_two (y_2, o_this.2.1, o_this.2.2.1, o_this.2.2.2.1, o_this.2.2.2.2.1, o_this.2.2.2.2.2.1, o_this.2.2.2.2.2.2.1, o_this.2.2.2.2.2.2.2.1, o_this.2.2.2.2.2.2.2.2.1, o_this.2.2.2.2.2.2.2.2.2.1, o_this.2.2.2.2.2.2.2.2.2.2.1, o_this.2.2.2.2.2.2.2.2.2.2.2.1, o_this.2.2.2.2.2.2.2.2.2.2.2.2.1, o_this.2.2.2.2.2.2.2.2.2.2.2.2.2.1, o_this.2.2.2.2.2.2.2.2.2.2.2.2.2.2.1, o_this.2.2.2.2.2.2.2.2.2.2.2.2.2.2.2.1, o_this.2.2.2.2.2.2.2.2.2.2.2.2.2.2.2.2.1, o_this.2.2.2.2.2.2.2.2.2.2.2.2.2.2.2.2.2.1, o_this.2.2.2.2.2.2.2.2.2.2.2.2.2.2.2.2.2.2.1, o_this.2.2.2.2.2.2.2.2.2.2.2.2.2.2.2.2.2.2.2.1, o_this.2.2.2.2.2.2.2.2.2.2.2.2.2.2.2.2.2.2.2.2.1, o_this.2.2.2.2.2.2.2.2.2.2.2.2.2.2.2.2.2.2.2.2.2.1, o_this.2.2.2.2.2.2.2.2.2.2.2.2.2.2.2.2.2.2.2.2.2.2.1, o_this.2.2.2.2.2.2.2.2.2.2.2.2.2.2.2.2.2.2.2.2.2.2.2.1, o_this.2.2.2.2.2.2.2.2.2.2.2.2.2.2.2.2.2.2.2.2.2.2.2.2)), (a_this_bytes, .inl (k_this_bytes, 2048, .inl r_this_bytes))] := hD
  refine lv_aload_n hx hb dX8_loadStatus_13 rfl (lv_at hl 0 rfl) ?_
  refine lv_aload_n hx hb dX8_loadStatus_14 rfl (lv_at hl 0 rfl) ?_
  refine gf_X8_7 (v := .ref a_this_bytes) hx hb hown ht hK hP 0 rfl rfl dX8_loadStatus_15 ?_
  refine lv_iload_n hx hb dX8_loadStatus_18 rfl (lv_at hl 1 rfl) ?_
  refine lv_iconst (v := 1) hx hb dX8_loadStatus_19 (by decide) ?_
  refine lv_iadd hx hb dX8_loadStatus_20 ?_
  obtain ⟨hi_3, hs⟩ := hs
  refine va_iald hx hb hK hP 1 0 rfl rfl hi_3 dX8_loadStatus_21 ?_
  refine lv_bipush (v := 16) hx hb dX8_loadStatus_22 (by decide) ?_
  refine lv_idiv hx hb dX8_loadStatus_24 (by decide) ?_
  refine lv_topi (fun y_4 hy => ?_)
  rw [q_let_of hy.symm] at hF
  rw [q_let_of hy.symm] at hs
  clear hy
  refine pf_X8_46 (x := y_4) hx hb hown ht hK hP hD hS 0 rfl (Nat.le_of_ble_eq_true rfl) dX8_loadStatus_25 (fun H locs hP hD hS => ?_)
  have hP : va_P D vwCl [(a_this, oX8 a_this_bytes a_this_keys a_this_reg a_this_card a_this_filled a_this_taken a_this_line a_this_one a_this_two (y_2, y_4, o_this.2.2.1, o_this.2.2.2.1, o_this.2.2.2.2.1, o_this.2.2.2.2.2.1, o_this.2.2.2.2.2.2.1, o_this.2.2.2.2.2.2.2.1, o_this.2.2.2.2.2.2.2.2.1, o_this.2.2.2.2.2.2.2.2.2.1, o_this.2.2.2.2.2.2.2.2.2.2.1, o_this.2.2.2.2.2.2.2.2.2.2.2.1, o_this.2.2.2.2.2.2.2.2.2.2.2.2.1, o_this.2.2.2.2.2.2.2.2.2.2.2.2.2.1, o_this.2.2.2.2.2.2.2.2.2.2.2.2.2.2.1, o_this.2.2.2.2.2.2.2.2.2.2.2.2.2.2.2.1, o_this.2.2.2.2.2.2.2.2.2.2.2.2.2.2.2.2.1, o_this.2.2.2.2.2.2.2.2.2.2.2.2.2.2.2.2.2.1, o_this.2.2.2.2.2.2.2.2.2.2.2.2.2.2.2.2.2.2.1, o_this.2.2.2.2.2.2.2.2.2.2.2.2.2.2.2.2.2.2.2.1, o_this.2.2.2.2.2.2.2.2.2.2.2.2.2.2.2.2.2.2.2.2.1, o_this.2.2.2.2.2.2.2.2.2.2.2.2.2.2.2.2.2.2.2.2.2.1, o_this.2.2.2.2.2.2.2.2.2.2.2.2.2.2.2.2.2.2.2.2.2.2.1, o_this.2.2.2.2.2.2.2.2.2.2.2.2.2.2.2.2.2.2.2.2.2.2.2.1, o_this.2.2.2.2.2.2.2.2.2.2.2.2.2.2.2.2.2.2.2.2.2.2.2.2)), (a_this_bytes, .inl (k_this_bytes, 2048, .inl r_this_bytes))] H := hP
  have hD : va_D A [(a_this, oX8 a_this_bytes a_this_keys a_this_reg a_this_card a_this_filled a_this_taken a_this_line a_this_one a_this_two (y_2, y_4, o_this.2.2.1, o_this.2.2.2.1, o_this.2.2.2.2.1, o_this.2.2.2.2.2.1, o_this.2.2.2.2.2.2.1, o_this.2.2.2.2.2.2.2.1, o_this.2.2.2.2.2.2.2.2.1, o_this.2.2.2.2.2.2.2.2.2.1, o_this.2.2.2.2.2.2.2.2.2.2.1, o_this.2.2.2.2.2.2.2.2.2.2.2.1, o_this.2.2.2.2.2.2.2.2.2.2.2.2.1, o_this.2.2.2.2.2.2.2.2.2.2.2.2.2.1, o_this.2.2.2.2.2.2.2.2.2.2.2.2.2.2.1, o_this.2.2.2.2.2.2.2.2.2.2.2.2.2.2.2.1, o_this.2.2.2.2.2.2.2.2.2.2.2.2.2.2.2.2.1, o_this.2.2.2.2.2.2.2.2.2.2.2.2.2.2.2.2.2.1, o_this.2.2.2.2.2.2.2.2.2.2.2.2.2.2.2.2.2.2.1, o_this.2.2.2.2.2.2.2.2.2.2.2.2.2.2.2.2.2.2.2.1, o_this.2.2.2.2.2.2.2.2.2.2.2.2.2.2.2.2.2.2.2.2.1, o_this.2.2.2.2.2.2.2.2.2.2.2.2.2.2.2.2.2.2.2.2.2.1, o_this.2.2.2.2.2.2.2.2.2.2.2.2.2.2.2.2.2.2.2.2.2.2.1, o_this.2.2.2.2.2.2.2.2.2.2.2.2.2.2.2.2.2.2.2.2.2.2.2.1, o_this.2.2.2.2.2.2.2.2.2.2.2.2.2.2.2.2.2.2.2.2.2.2.2.2)), (a_this_bytes, .inl (k_this_bytes, 2048, .inl r_this_bytes))] := hD
  refine lv_aload_n hx hb dX8_loadStatus_28 rfl (lv_at hl 0 rfl) ?_
  refine lv_aload_n hx hb dX8_loadStatus_29 rfl (lv_at hl 0 rfl) ?_
  refine gf_X8_7 (v := .ref a_this_bytes) hx hb hown ht hK hP 0 rfl rfl dX8_loadStatus_30 ?_
  refine lv_iload_n hx hb dX8_loadStatus_33 rfl (lv_at hl 1 rfl) ?_
  refine lv_iconst (v := 1) hx hb dX8_loadStatus_34 (by decide) ?_
  refine lv_iadd hx hb dX8_loadStatus_35 ?_
  obtain ⟨hi_5, hs⟩ := hs
  refine va_iald hx hb hK hP 1 0 rfl rfl hi_5 dX8_loadStatus_36 ?_
  refine lv_iconst (v := 3) hx hb dX8_loadStatus_37 (by decide) ?_
  refine lv_iand hx hb dX8_loadStatus_38 ?_
  refine lv_topi (fun y_6 hy => ?_)
  rw [q_let_of hy.symm] at hF
  rw [q_let_of hy.symm] at hs
  clear hy
  refine pf_X8_52 (x := y_6) hx hb hown ht hK hP hD hS 0 rfl (Nat.le_of_ble_eq_true rfl) dX8_loadStatus_39 (fun H locs hP hD hS => ?_)
  have hP : va_P D vwCl [(a_this, oX8 a_this_bytes a_this_keys a_this_reg a_this_card a_this_filled a_this_taken a_this_line a_this_one a_this_two (y_2, y_4, y_6, o_this.2.2.2.1, o_this.2.2.2.2.1, o_this.2.2.2.2.2.1, o_this.2.2.2.2.2.2.1, o_this.2.2.2.2.2.2.2.1, o_this.2.2.2.2.2.2.2.2.1, o_this.2.2.2.2.2.2.2.2.2.1, o_this.2.2.2.2.2.2.2.2.2.2.1, o_this.2.2.2.2.2.2.2.2.2.2.2.1, o_this.2.2.2.2.2.2.2.2.2.2.2.2.1, o_this.2.2.2.2.2.2.2.2.2.2.2.2.2.1, o_this.2.2.2.2.2.2.2.2.2.2.2.2.2.2.1, o_this.2.2.2.2.2.2.2.2.2.2.2.2.2.2.2.1, o_this.2.2.2.2.2.2.2.2.2.2.2.2.2.2.2.2.1, o_this.2.2.2.2.2.2.2.2.2.2.2.2.2.2.2.2.2.1, o_this.2.2.2.2.2.2.2.2.2.2.2.2.2.2.2.2.2.2.1, o_this.2.2.2.2.2.2.2.2.2.2.2.2.2.2.2.2.2.2.2.1, o_this.2.2.2.2.2.2.2.2.2.2.2.2.2.2.2.2.2.2.2.2.1, o_this.2.2.2.2.2.2.2.2.2.2.2.2.2.2.2.2.2.2.2.2.2.1, o_this.2.2.2.2.2.2.2.2.2.2.2.2.2.2.2.2.2.2.2.2.2.2.1, o_this.2.2.2.2.2.2.2.2.2.2.2.2.2.2.2.2.2.2.2.2.2.2.2.1, o_this.2.2.2.2.2.2.2.2.2.2.2.2.2.2.2.2.2.2.2.2.2.2.2.2)), (a_this_bytes, .inl (k_this_bytes, 2048, .inl r_this_bytes))] H := hP
  have hD : va_D A [(a_this, oX8 a_this_bytes a_this_keys a_this_reg a_this_card a_this_filled a_this_taken a_this_line a_this_one a_this_two (y_2, y_4, y_6, o_this.2.2.2.1, o_this.2.2.2.2.1, o_this.2.2.2.2.2.1, o_this.2.2.2.2.2.2.1, o_this.2.2.2.2.2.2.2.1, o_this.2.2.2.2.2.2.2.2.1, o_this.2.2.2.2.2.2.2.2.2.1, o_this.2.2.2.2.2.2.2.2.2.2.1, o_this.2.2.2.2.2.2.2.2.2.2.2.1, o_this.2.2.2.2.2.2.2.2.2.2.2.2.1, o_this.2.2.2.2.2.2.2.2.2.2.2.2.2.1, o_this.2.2.2.2.2.2.2.2.2.2.2.2.2.2.1, o_this.2.2.2.2.2.2.2.2.2.2.2.2.2.2.2.1, o_this.2.2.2.2.2.2.2.2.2.2.2.2.2.2.2.2.1, o_this.2.2.2.2.2.2.2.2.2.2.2.2.2.2.2.2.2.1, o_this.2.2.2.2.2.2.2.2.2.2.2.2.2.2.2.2.2.2.1, o_this.2.2.2.2.2.2.2.2.2.2.2.2.2.2.2.2.2.2.2.1, o_this.2.2.2.2.2.2.2.2.2.2.2.2.2.2.2.2.2.2.2.2.1, o_this.2.2.2.2.2.2.2.2.2.2.2.2.2.2.2.2.2.2.2.2.2.1, o_this.2.2.2.2.2.2.2.2.2.2.2.2.2.2.2.2.2.2.2.2.2.2.1, o_this.2.2.2.2.2.2.2.2.2.2.2.2.2.2.2.2.2.2.2.2.2.2.2.1, o_this.2.2.2.2.2.2.2.2.2.2.2.2.2.2.2.2.2.2.2.2.2.2.2.2)), (a_this_bytes, .inl (k_this_bytes, 2048, .inl r_this_bytes))] := hD
  refine lv_aload_n hx hb dX8_loadStatus_42 rfl (lv_at hl 0 rfl) ?_
  refine lv_aload_n hx hb dX8_loadStatus_43 rfl (lv_at hl 0 rfl) ?_
  refine lv_iload_n hx hb dX8_loadStatus_44 rfl (lv_at hl 1 rfl) ?_
  refine lv_bipush (v := 6) hx hb dX8_loadStatus_45 (by decide) ?_
  refine lv_iadd hx hb dX8_loadStatus_47 ?_
  refine lv_iconst (v := 2) hx hb dX8_loadStatus_48 (by decide) ?_
  have hi_7 := hs
  refine q_Vi (rest := [.ref a_this]) (c_X8_field l D a_this a_this_bytes a_this_keys a_this_reg a_this_card a_this_filled a_this_taken a_this_line a_this_one a_this_two k_this_bytes (y_2, y_4, y_6, o_this.2.2.2.1, o_this.2.2.2.2.1, o_this.2.2.2.2.2.1, o_this.2.2.2.2.2.2.1, o_this.2.2.2.2.2.2.2.1, o_this.2.2.2.2.2.2.2.2.1, o_this.2.2.2.2.2.2.2.2.2.1, o_this.2.2.2.2.2.2.2.2.2.2.1, o_this.2.2.2.2.2.2.2.2.2.2.2.1, o_this.2.2.2.2.2.2.2.2.2.2.2.2.1, o_this.2.2.2.2.2.2.2.2.2.2.2.2.2.1, o_this.2.2.2.2.2.2.2.2.2.2.2.2.2.2.1, o_this.2.2.2.2.2.2.2.2.2.2.2.2.2.2.2.1, o_this.2.2.2.2.2.2.2.2.2.2.2.2.2.2.2.2.1, o_this.2.2.2.2.2.2.2.2.2.2.2.2.2.2.2.2.2.1, o_this.2.2.2.2.2.2.2.2.2.2.2.2.2.2.2.2.2.2.1, o_this.2.2.2.2.2.2.2.2.2.2.2.2.2.2.2.2.2.2.2.1, o_this.2.2.2.2.2.2.2.2.2.2.2.2.2.2.2.2.2.2.2.2.1, o_this.2.2.2.2.2.2.2.2.2.2.2.2.2.2.2.2.2.2.2.2.2.1, o_this.2.2.2.2.2.2.2.2.2.2.2.2.2.2.2.2.2.2.2.2.2.2.1, o_this.2.2.2.2.2.2.2.2.2.2.2.2.2.2.2.2.2.2.2.2.2.2.2.1, o_this.2.2.2.2.2.2.2.2.2.2.2.2.2.2.2.2.2.2.2.2.2.2.2.2) r_this_bytes (p1 + (6 : Int32)) 2 hi_7) cv_X8_field hx hb hml hown ht hN hK hA hP hD hS hl.1 (km_X8_66) ⟨Nat.le_of_ble_eq_true rfl, Nat.le_of_ble_eq_true rfl⟩ rfl rfl [0, 1] (by decide) rfl [0] rfl (fun _ => rfl) (ci := 8) rfl rfl rfl rfl rfl (Nat.le_of_ble_eq_true rfl) dX8_loadStatus_49 ⟨Nat.zero_le _, Nat.zero_le _⟩ (fun r u H locs hw hP hD hS => ?_)
  obtain ⟨rfl, rfl⟩ := hw
  have hP : va_P D vwCl [(a_this, oX8 a_this_bytes a_this_keys a_this_reg a_this_card a_this_filled a_this_taken a_this_line a_this_one a_this_two (y_2, y_4, y_6, o_this.2.2.2.1, o_this.2.2.2.2.1, o_this.2.2.2.2.2.1, o_this.2.2.2.2.2.2.1, o_this.2.2.2.2.2.2.2.1, o_this.2.2.2.2.2.2.2.2.1, o_this.2.2.2.2.2.2.2.2.2.1, o_this.2.2.2.2.2.2.2.2.2.2.1, o_this.2.2.2.2.2.2.2.2.2.2.2.1, o_this.2.2.2.2.2.2.2.2.2.2.2.2.1, o_this.2.2.2.2.2.2.2.2.2.2.2.2.2.1, o_this.2.2.2.2.2.2.2.2.2.2.2.2.2.2.1, o_this.2.2.2.2.2.2.2.2.2.2.2.2.2.2.2.1, o_this.2.2.2.2.2.2.2.2.2.2.2.2.2.2.2.2.1, o_this.2.2.2.2.2.2.2.2.2.2.2.2.2.2.2.2.2.1, o_this.2.2.2.2.2.2.2.2.2.2.2.2.2.2.2.2.2.2.1, o_this.2.2.2.2.2.2.2.2.2.2.2.2.2.2.2.2.2.2.2.1, o_this.2.2.2.2.2.2.2.2.2.2.2.2.2.2.2.2.2.2.2.2.1, o_this.2.2.2.2.2.2.2.2.2.2.2.2.2.2.2.2.2.2.2.2.2.1, o_this.2.2.2.2.2.2.2.2.2.2.2.2.2.2.2.2.2.2.2.2.2.2.1, o_this.2.2.2.2.2.2.2.2.2.2.2.2.2.2.2.2.2.2.2.2.2.2.2.1, o_this.2.2.2.2.2.2.2.2.2.2.2.2.2.2.2.2.2.2.2.2.2.2.2.2)), (a_this_bytes, .inl (k_this_bytes, 2048, .inl r_this_bytes))] H := hP
  have hD : va_D A [(a_this, oX8 a_this_bytes a_this_keys a_this_reg a_this_card a_this_filled a_this_taken a_this_line a_this_one a_this_two (y_2, y_4, y_6, o_this.2.2.2.1, o_this.2.2.2.2.1, o_this.2.2.2.2.2.1, o_this.2.2.2.2.2.2.1, o_this.2.2.2.2.2.2.2.1, o_this.2.2.2.2.2.2.2.2.1, o_this.2.2.2.2.2.2.2.2.2.1, o_this.2.2.2.2.2.2.2.2.2.2.1, o_this.2.2.2.2.2.2.2.2.2.2.2.1, o_this.2.2.2.2.2.2.2.2.2.2.2.2.1, o_this.2.2.2.2.2.2.2.2.2.2.2.2.2.1, o_this.2.2.2.2.2.2.2.2.2.2.2.2.2.2.1, o_this.2.2.2.2.2.2.2.2.2.2.2.2.2.2.2.1, o_this.2.2.2.2.2.2.2.2.2.2.2.2.2.2.2.2.1, o_this.2.2.2.2.2.2.2.2.2.2.2.2.2.2.2.2.2.1, o_this.2.2.2.2.2.2.2.2.2.2.2.2.2.2.2.2.2.2.1, o_this.2.2.2.2.2.2.2.2.2.2.2.2.2.2.2.2.2.2.2.1, o_this.2.2.2.2.2.2.2.2.2.2.2.2.2.2.2.2.2.2.2.2.1, o_this.2.2.2.2.2.2.2.2.2.2.2.2.2.2.2.2.2.2.2.2.2.1, o_this.2.2.2.2.2.2.2.2.2.2.2.2.2.2.2.2.2.2.2.2.2.2.1, o_this.2.2.2.2.2.2.2.2.2.2.2.2.2.2.2.2.2.2.2.2.2.2.2.1, o_this.2.2.2.2.2.2.2.2.2.2.2.2.2.2.2.2.2.2.2.2.2.2.2.2)), (a_this_bytes, .inl (k_this_bytes, 2048, .inl r_this_bytes))] := hD
  refine lv_topi (fun y_9 hy => ?_)
  rw [q_let_of hy.symm] at hF
  clear hy
  refine pf_X8_59 (x := y_9) hx hb hown ht hK hP hD hS 0 rfl (Nat.le_of_ble_eq_true rfl) dX8_loadStatus_52 (fun H locs hP hD hS => ?_)
  have hP : va_P D vwCl [(a_this, oX8 a_this_bytes a_this_keys a_this_reg a_this_card a_this_filled a_this_taken a_this_line a_this_one a_this_two (y_2, y_4, y_6, y_9, o_this.2.2.2.2.1, o_this.2.2.2.2.2.1, o_this.2.2.2.2.2.2.1, o_this.2.2.2.2.2.2.2.1, o_this.2.2.2.2.2.2.2.2.1, o_this.2.2.2.2.2.2.2.2.2.1, o_this.2.2.2.2.2.2.2.2.2.2.1, o_this.2.2.2.2.2.2.2.2.2.2.2.1, o_this.2.2.2.2.2.2.2.2.2.2.2.2.1, o_this.2.2.2.2.2.2.2.2.2.2.2.2.2.1, o_this.2.2.2.2.2.2.2.2.2.2.2.2.2.2.1, o_this.2.2.2.2.2.2.2.2.2.2.2.2.2.2.2.1, o_this.2.2.2.2.2.2.2.2.2.2.2.2.2.2.2.2.1, o_this.2.2.2.2.2.2.2.2.2.2.2.2.2.2.2.2.2.1, o_this.2.2.2.2.2.2.2.2.2.2.2.2.2.2.2.2.2.2.1, o_this.2.2.2.2.2.2.2.2.2.2.2.2.2.2.2.2.2.2.2.1, o_this.2.2.2.2.2.2.2.2.2.2.2.2.2.2.2.2.2.2.2.2.1, o_this.2.2.2.2.2.2.2.2.2.2.2.2.2.2.2.2.2.2.2.2.2.1, o_this.2.2.2.2.2.2.2.2.2.2.2.2.2.2.2.2.2.2.2.2.2.2.1, o_this.2.2.2.2.2.2.2.2.2.2.2.2.2.2.2.2.2.2.2.2.2.2.2.1, o_this.2.2.2.2.2.2.2.2.2.2.2.2.2.2.2.2.2.2.2.2.2.2.2.2)), (a_this_bytes, .inl (k_this_bytes, 2048, .inl r_this_bytes))] H := hP
  have hD : va_D A [(a_this, oX8 a_this_bytes a_this_keys a_this_reg a_this_card a_this_filled a_this_taken a_this_line a_this_one a_this_two (y_2, y_4, y_6, y_9, o_this.2.2.2.2.1, o_this.2.2.2.2.2.1, o_this.2.2.2.2.2.2.1, o_this.2.2.2.2.2.2.2.1, o_this.2.2.2.2.2.2.2.2.1, o_this.2.2.2.2.2.2.2.2.2.1, o_this.2.2.2.2.2.2.2.2.2.2.1, o_this.2.2.2.2.2.2.2.2.2.2.2.1, o_this.2.2.2.2.2.2.2.2.2.2.2.2.1, o_this.2.2.2.2.2.2.2.2.2.2.2.2.2.1, o_this.2.2.2.2.2.2.2.2.2.2.2.2.2.2.1, o_this.2.2.2.2.2.2.2.2.2.2.2.2.2.2.2.1, o_this.2.2.2.2.2.2.2.2.2.2.2.2.2.2.2.2.1, o_this.2.2.2.2.2.2.2.2.2.2.2.2.2.2.2.2.2.1, o_this.2.2.2.2.2.2.2.2.2.2.2.2.2.2.2.2.2.2.1, o_this.2.2.2.2.2.2.2.2.2.2.2.2.2.2.2.2.2.2.2.1, o_this.2.2.2.2.2.2.2.2.2.2.2.2.2.2.2.2.2.2.2.2.1, o_this.2.2.2.2.2.2.2.2.2.2.2.2.2.2.2.2.2.2.2.2.2.1, o_this.2.2.2.2.2.2.2.2.2.2.2.2.2.2.2.2.2.2.2.2.2.2.1, o_this.2.2.2.2.2.2.2.2.2.2.2.2.2.2.2.2.2.2.2.2.2.2.2.1, o_this.2.2.2.2.2.2.2.2.2.2.2.2.2.2.2.2.2.2.2.2.2.2.2.2)), (a_this_bytes, .inl (k_this_bytes, 2048, .inl r_this_bytes))] := hD
  exact hQ (y_2, y_4, y_6, y_9, o_this.2.2.2.2.1, o_this.2.2.2.2.2.1, o_this.2.2.2.2.2.2.1, o_this.2.2.2.2.2.2.2.1, o_this.2.2.2.2.2.2.2.2.1, o_this.2.2.2.2.2.2.2.2.2.1, o_this.2.2.2.2.2.2.2.2.2.2.1, o_this.2.2.2.2.2.2.2.2.2.2.2.1, o_this.2.2.2.2.2.2.2.2.2.2.2.2.1, o_this.2.2.2.2.2.2.2.2.2.2.2.2.2.1, o_this.2.2.2.2.2.2.2.2.2.2.2.2.2.2.1, o_this.2.2.2.2.2.2.2.2.2.2.2.2.2.2.2.1, o_this.2.2.2.2.2.2.2.2.2.2.2.2.2.2.2.2.1, o_this.2.2.2.2.2.2.2.2.2.2.2.2.2.2.2.2.2.1, o_this.2.2.2.2.2.2.2.2.2.2.2.2.2.2.2.2.2.2.1, o_this.2.2.2.2.2.2.2.2.2.2.2.2.2.2.2.2.2.2.2.1, o_this.2.2.2.2.2.2.2.2.2.2.2.2.2.2.2.2.2.2.2.2.1, o_this.2.2.2.2.2.2.2.2.2.2.2.2.2.2.2.2.2.2.2.2.2.1, o_this.2.2.2.2.2.2.2.2.2.2.2.2.2.2.2.2.2.2.2.2.2.2.1, o_this.2.2.2.2.2.2.2.2.2.2.2.2.2.2.2.2.2.2.2.2.2.2.2.1, o_this.2.2.2.2.2.2.2.2.2.2.2.2.2.2.2.2.2.2.2.2.2.2.2.2) _ _ _ _ dX8_loadStatus_55 hF.symm hP hD hS
theorem cv_X8_loadStatus : qV yX8_loadStatus cX8_loadStatus 2 none 1 := ⟨kc_X8_loadStatus, kt_X8_loadStatus, ks_X8_loadStatus, kn_X8, by decide, by decide +kernel⟩
def f_X8_interrupt (o_this : Int32 × Int32 × Int32 × Int32 × Bool × Bool × Int32 × Int32 × Int32 × Int32 × Bool × Bool × Bool × Int32 × Int32 × Int32 × Int32 × Int32 × Int32 × Int32 × Int32 × Int32 × Int32 × Int32 × Int32) (r_this_bytes : Nat → Int32) (p1 : Int32) (p2 : Int32) (p3 : Int32) : (Int32 × Int32 × Int32 × Int32 × Bool × Bool × Int32 × Int32 × Int32 × Int32 × Bool × Bool × Bool × Int32 × Int32 × Int32 × Int32 × Int32 × Int32 × Int32 × Int32 × Int32 × Int32 × Int32 × Int32) × (Nat → Int32) := (q_let (f_X8_put (upd (upd r_this_bytes p1.toNatClampNeg o_this.1) (p1 + (1 : Int32)).toNatClampNeg (((16 : Int32) * o_this.2.1) + o_this.2.2.1)) (p1 + (2 : Int32)) p3 2) fun w_4 => (q_let (f_X8_put w_4 (p1 + (4 : Int32)) 0 2) fun w_6 => (q_let (f_X8_put w_6 (p1 + (6 : Int32)) o_this.2.2.2.1 2) fun w_8 => (q_let (f_X8_loadStatus o_this w_8 p2) fun w_10 => (w_10, w_8)))))
def s_X8_interrupt (o_this : Int32 × Int32 × Int32 × Int32 × Bool × Bool × Int32 × Int32 × Int32 × Int32 × Bool × Bool × Bool × Int32 × Int32 × Int32 × Int32 × Int32 × Int32 × Int32 × Int32 × Int32 × Int32 × Int32 × Int32) (r_this_bytes : Nat → Int32) (p1 : Int32) (p2 : Int32) (p3 : Int32) : Prop := (vp_in p1 2048 ∧ (vp_in (p1 + (1 : Int32)) 2048 ∧ (s_X8_put (upd (upd r_this_bytes p1.toNatClampNeg o_this.1) (p1 + (1 : Int32)).toNatClampNeg (((16 : Int32) * o_this.2.1) + o_this.2.2.1)) (p1 + (2 : Int32)) p3 2 ∧ (q_let (f_X8_put (upd (upd r_this_bytes p1.toNatClampNeg o_this.1) (p1 + (1 : Int32)).toNatClampNeg (((16 : Int32) * o_this.2.1) + o_this.2.2.1)) (p1 + (2 : Int32)) p3 2) fun w_4 => (s_X8_put w_4 (p1 + (4 : Int32)) 0 2 ∧ (q_let (f_X8_put w_4 (p1 + (4 : Int32)) 0 2) fun w_6 => (s_X8_put w_6 (p1 + (6 : Int32)) o_this.2.2.2.1 2 ∧ (q_let (f_X8_put w_6 (p1 + (6 : Int32)) o_this.2.2.2.1 2) fun w_8 => s_X8_loadStatus w_8 p2))))))))
set_option linter.all false in
set_option maxHeartbeats 4000000 in
set_option maxRecDepth 100000 in
theorem c_X8_interrupt (l : Launch) (D : va_G) (a_this a_this_bytes a_this_keys a_this_reg a_this_card a_this_filled a_this_taken a_this_line a_this_one a_this_two : Nat) (k_this_bytes : ClassId) (o_this : Int32 × Int32 × Int32 × Int32 × Bool × Bool × Int32 × Int32 × Int32 × Int32 × Bool × Bool × Bool × Int32 × Int32 × Int32 × Int32 × Int32 × Int32 × Int32 × Int32 × Int32 × Int32 × Int32 × Int32) (r_this_bytes : Nat → Int32) (p1 : Int32) (p2 : Int32) (p3 : Int32) (hs : s_X8_interrupt o_this r_this_bytes p1 p2 p3) : CtV l yX8_interrupt cX8_interrupt 4 none { frames := 2, cells := 0, slots := 0, locals := 45 } D [.ref a_this, .int p1, .int p2, .int p3] [(a_this, oX8 a_this_bytes a_this_keys a_this_reg a_this_card a_this_filled a_this_taken a_this_line a_this_one a_this_two o_this), (a_this_bytes, .inl (k_this_bytes, 2048, .inl r_this_bytes))] [(k_this_bytes, .int)] (fun (u : (Int32 × Int32 × Int32 × Int32 × Bool × Bool × Int32 × Int32 × Int32 × Int32 × Bool × Bool × Bool × Int32 × Int32 × Int32 × Int32 × Int32 × Int32 × Int32 × Int32 × Int32 × Int32 × Int32 × Int32) × (Nat → Int32)) => f_X8_interrupt o_this r_this_bytes p1 p2 p3 = u) (fun u => [(a_this, oX8 a_this_bytes a_this_keys a_this_reg a_this_card a_this_filled a_this_taken a_this_line a_this_one a_this_two u.1), (a_this_bytes, .inl (k_this_bytes, 2048, .inl u.2))]) := by
  refine CtV.of (by decide) (Nat.le_of_ble_eq_true rfl) ?_
  intro p e s m below meth c A ls Q hE hP hD hS hl hQ
  obtain ⟨hx, hb, hml, hown, ht, hN, hK, hA⟩ := hE
  have hown : s.vm.findClass RX8 = some m.cls := hown
  have hl : lv_has ls 4 [(0, .ref a_this), (1, .int p1), (2, .int p2), (3, .int p3)] := hl
  obtain ⟨F, hF⟩ : ∃ F, f_X8_interrupt o_this r_this_bytes p1 p2 p3 = F := ⟨_, rfl⟩
  rw [hF] at hQ
  unfold f_X8_interrupt at hF
  unfold s_X8_interrupt at hs
  refine lv_aload_n hx hb dX8_interrupt_0 rfl (lv_at hl 0 rfl) ?_
  refine gf_X8_7 (v := .ref a_this_bytes) hx hb hown ht hK hP 0 rfl rfl dX8_interrupt_1 ?_
  refine lv_iload_n hx hb dX8_interrupt_4 rfl (lv_at hl 1 rfl) ?_
  refine lv_aload_n hx hb dX8_interrupt_5 rfl (lv_at hl 0 rfl) ?_
  refine gf_X8_49 (v := .int o_this.1) hx hb hown ht hK hP 0 rfl rfl dX8_interrupt_6 ?_
  obtain ⟨hi_1, hs⟩ := hs
  refine va_iast hx hb hK hP hD hS 1 0 rfl rfl hi_1 dX8_interrupt_9 (fun H locs hP hD hS => ?_)
  have hP : va_P D vwCl [(a_this, oX8 a_this_bytes a_this_keys a_this_reg a_this_card a_this_filled a_this_taken a_this_line a_this_one a_this_two o_this), (a_this_bytes, .inl (k_this_bytes, 2048, .inl (upd r_this_bytes p1.toNatClampNeg o_this.1)))] H := hP
  have hD : va_D A [(a_this, oX8 a_this_bytes a_this_keys a_this_reg a_this_card a_this_filled a_this_taken a_this_line a_this_one a_this_two o_this), (a_this_bytes, .inl (k_this_bytes, 2048, .inl (upd r_this_bytes p1.toNatClampNeg o_this.1)))] := hD
  refine lv_aload_n hx hb dX8_interrupt_10 rfl (lv_at hl 0 rfl) ?_
  refine gf_X8_7 (v := .ref a_this_bytes) hx hb hown ht hK hP 0 rfl rfl dX8_interrupt_11 ?_
  refine lv_iload_n hx hb dX8_interrupt_14 rfl (lv_at hl 1 rfl) ?_
  refine lv_iconst (v := 1) hx hb dX8_interrupt_15 (by decide) ?_
  refine lv_iadd hx hb dX8_interrupt_16 ?_
  refine lv_bipush (v := 16) hx hb dX8_interrupt_17 (by decide) ?_
  refine lv_aload_n hx hb dX8_interrupt_19 rfl (lv_at hl 0 rfl) ?_
  refine gf_X8_46 (v := .int o_this.2.1) hx hb hown ht hK hP 0 rfl rfl dX8_interrupt_20 ?_
  refine lv_imul hx hb dX8_interrupt_23 ?_
  refine lv_aload_n hx hb dX8_interrupt_24 rfl (lv_at hl 0 rfl) ?_
  refine gf_X8_52 (v := .int o_this.2.2.1) hx hb hown ht hK hP 0 rfl rfl dX8_interrupt_25 ?_
  refine lv_iadd hx hb dX8_interrupt_28 ?_
  obtain ⟨hi_2, hs⟩ := hs
  refine va_iast hx hb hK hP hD hS 1 0 rfl rfl hi_2 dX8_interrupt_29 (fun H locs hP hD hS => ?_)
  have hP : va_P D vwCl [(a_this, oX8 a_this_bytes a_this_keys a_this_reg a_this_card a_this_filled a_this_taken a_this_line a_this_one a_this_two o_this), (a_this_bytes, .inl (k_this_bytes, 2048, .inl (upd (upd r_this_bytes p1.toNatClampNeg o_this.1) (p1 + (1 : Int32)).toNatClampNeg (((16 : Int32) * o_this.2.1) + o_this.2.2.1))))] H := hP
  have hD : va_D A [(a_this, oX8 a_this_bytes a_this_keys a_this_reg a_this_card a_this_filled a_this_taken a_this_line a_this_one a_this_two o_this), (a_this_bytes, .inl (k_this_bytes, 2048, .inl (upd (upd r_this_bytes p1.toNatClampNeg o_this.1) (p1 + (1 : Int32)).toNatClampNeg (((16 : Int32) * o_this.2.1) + o_this.2.2.1))))] := hD
  refine lv_aload_n hx hb dX8_interrupt_30 rfl (lv_at hl 0 rfl) ?_
  refine lv_iload_n hx hb dX8_interrupt_31 rfl (lv_at hl 1 rfl) ?_
  refine lv_iconst (v := 2) hx hb dX8_interrupt_32 (by decide) ?_
  refine lv_iadd hx hb dX8_interrupt_33 ?_
  refine lv_iload_n hx hb dX8_interrupt_34 rfl (lv_at hl 3 rfl) ?_
  refine lv_iconst (v := 2) hx hb dX8_interrupt_35 (by decide) ?_
  obtain ⟨hi_3, hs⟩ := hs
  refine q_Vv (rest := []) (c_X8_put l D a_this a_this_bytes a_this_keys a_this_reg a_this_card a_this_filled a_this_taken a_this_line a_this_one a_this_two k_this_bytes o_this (upd (upd r_this_bytes p1.toNatClampNeg o_this.1) (p1 + (1 : Int32)).toNatClampNeg (((16 : Int32) * o_this.2.1) + o_this.2.2.1)) (p1 + (2 : Int32)) p3 2 hi_3) cv_X8_put hx hb hml hown ht hN hK hA hP hD hS hl.1 (km_X8_55) ⟨Nat.le_of_ble_eq_true rfl, Nat.le_of_ble_eq_true rfl⟩ rfl rfl [0, 1] (by decide) rfl [0] rfl (fun _ => rfl) (ci := 8) rfl rfl rfl rfl rfl (Nat.le_of_ble_eq_true rfl) dX8_interrupt_36 ⟨Nat.zero_le _, Nat.zero_le _⟩ (fun w_4 H locs hw hP hD hS => ?_)
  have hP : va_P D vwCl [(a_this, oX8 a_this_bytes a_this_keys a_this_reg a_this_card a_this_filled a_this_taken a_this_line a_this_one a_this_two o_this), (a_this_bytes, .inl (k_this_bytes, 2048, .inl w_4))] H := hP
  have hD : va_D A [(a_this, oX8 a_this_bytes a_this_keys a_this_reg a_this_card a_this_filled a_this_taken a_this_line a_this_one a_this_two o_this), (a_this_bytes, .inl (k_this_bytes, 2048, .inl w_4))] := hD
  rw [q_let_of hw] at hF
  rw [q_let_of hw] at hs
  refine lv_aload_n hx hb dX8_interrupt_39 rfl (lv_at hl 0 rfl) ?_
  refine lv_iload_n hx hb dX8_interrupt_40 rfl (lv_at hl 1 rfl) ?_
  refine lv_iconst (v := 4) hx hb dX8_interrupt_41 (by decide) ?_
  refine lv_iadd hx hb dX8_interrupt_42 ?_
  refine lv_iconst (v := 0) hx hb dX8_interrupt_43 (by decide) ?_
  refine lv_iconst (v := 2) hx hb dX8_interrupt_44 (by decide) ?_
  obtain ⟨hi_5, hs⟩ := hs
  refine q_Vv (rest := []) (c_X8_put l D a_this a_this_bytes a_this_keys a_this_reg a_this_card a_this_filled a_this_taken a_this_line a_this_one a_this_two k_this_bytes o_this w_4 (p1 + (4 : Int32)) 0 2 hi_5) cv_X8_put hx hb hml hown ht hN hK hA hP hD hS hl.1 (km_X8_55) ⟨Nat.le_of_ble_eq_true rfl, Nat.le_of_ble_eq_true rfl⟩ rfl rfl [0, 1] (by decide) rfl [0] rfl (fun _ => rfl) (ci := 8) rfl rfl rfl rfl rfl (Nat.le_of_ble_eq_true rfl) dX8_interrupt_45 ⟨Nat.zero_le _, Nat.zero_le _⟩ (fun w_6 H locs hw hP hD hS => ?_)
  have hP : va_P D vwCl [(a_this, oX8 a_this_bytes a_this_keys a_this_reg a_this_card a_this_filled a_this_taken a_this_line a_this_one a_this_two o_this), (a_this_bytes, .inl (k_this_bytes, 2048, .inl w_6))] H := hP
  have hD : va_D A [(a_this, oX8 a_this_bytes a_this_keys a_this_reg a_this_card a_this_filled a_this_taken a_this_line a_this_one a_this_two o_this), (a_this_bytes, .inl (k_this_bytes, 2048, .inl w_6))] := hD
  rw [q_let_of hw] at hF
  rw [q_let_of hw] at hs
  refine lv_aload_n hx hb dX8_interrupt_48 rfl (lv_at hl 0 rfl) ?_
  refine lv_iload_n hx hb dX8_interrupt_49 rfl (lv_at hl 1 rfl) ?_
  refine lv_bipush (v := 6) hx hb dX8_interrupt_50 (by decide) ?_
  refine lv_iadd hx hb dX8_interrupt_52 ?_
  refine lv_aload_n hx hb dX8_interrupt_53 rfl (lv_at hl 0 rfl) ?_
  refine gf_X8_59 (v := .int o_this.2.2.2.1) hx hb hown ht hK hP 0 rfl rfl dX8_interrupt_54 ?_
  refine lv_iconst (v := 2) hx hb dX8_interrupt_57 (by decide) ?_
  obtain ⟨hi_7, hs⟩ := hs
  refine q_Vv (rest := []) (c_X8_put l D a_this a_this_bytes a_this_keys a_this_reg a_this_card a_this_filled a_this_taken a_this_line a_this_one a_this_two k_this_bytes o_this w_6 (p1 + (6 : Int32)) o_this.2.2.2.1 2 hi_7) cv_X8_put hx hb hml hown ht hN hK hA hP hD hS hl.1 (km_X8_55) ⟨Nat.le_of_ble_eq_true rfl, Nat.le_of_ble_eq_true rfl⟩ rfl rfl [0, 1] (by decide) rfl [0] rfl (fun _ => rfl) (ci := 8) rfl rfl rfl rfl rfl (Nat.le_of_ble_eq_true rfl) dX8_interrupt_58 ⟨Nat.zero_le _, Nat.zero_le _⟩ (fun w_8 H locs hw hP hD hS => ?_)
  have hP : va_P D vwCl [(a_this, oX8 a_this_bytes a_this_keys a_this_reg a_this_card a_this_filled a_this_taken a_this_line a_this_one a_this_two o_this), (a_this_bytes, .inl (k_this_bytes, 2048, .inl w_8))] H := hP
  have hD : va_D A [(a_this, oX8 a_this_bytes a_this_keys a_this_reg a_this_card a_this_filled a_this_taken a_this_line a_this_one a_this_two o_this), (a_this_bytes, .inl (k_this_bytes, 2048, .inl w_8))] := hD
  rw [q_let_of hw] at hF
  rw [q_let_of hw] at hs
  refine lv_aload_n hx hb dX8_interrupt_61 rfl (lv_at hl 0 rfl) ?_
  refine lv_iload_n hx hb dX8_interrupt_62 rfl (lv_at hl 2 rfl) ?_
  have hi_9 := hs
  refine q_Vv (rest := []) (c_X8_loadStatus l D a_this a_this_bytes a_this_keys a_this_reg a_this_card a_this_filled a_this_taken a_this_line a_this_one a_this_two k_this_bytes o_this w_8 p2 hi_9) cv_X8_loadStatus hx hb hml hown ht hN hK hA hP hD hS hl.1 (km_X8_62) ⟨Nat.le_of_ble_eq_true rfl, Nat.le_of_ble_eq_true rfl⟩ rfl rfl [0, 1] (by decide) rfl [0] rfl (fun _ => rfl) (ci := 8) rfl rfl rfl rfl rfl (Nat.le_of_ble_eq_true rfl) dX8_interrupt_63 ⟨Nat.zero_le _, Nat.zero_le _⟩ (fun w_10 H locs hw hP hD hS => ?_)
  have hP : va_P D vwCl [(a_this, oX8 a_this_bytes a_this_keys a_this_reg a_this_card a_this_filled a_this_taken a_this_line a_this_one a_this_two w_10), (a_this_bytes, .inl (k_this_bytes, 2048, .inl w_8))] H := hP
  have hD : va_D A [(a_this, oX8 a_this_bytes a_this_keys a_this_reg a_this_card a_this_filled a_this_taken a_this_line a_this_one a_this_two w_10), (a_this_bytes, .inl (k_this_bytes, 2048, .inl w_8))] := hD
  rw [q_let_of hw] at hF
  exact hQ (w_10, w_8) _ _ _ _ dX8_interrupt_66 hF.symm hP hD hS
theorem cv_X8_interrupt : qV yX8_interrupt cX8_interrupt 4 none 3 := ⟨kc_X8_interrupt, kt_X8_interrupt, ks_X8_interrupt, kn_X8, by decide, by decide +kernel⟩
def f_X8_among (p1 : Int32) (p2 : Int32) (p3 : Int32) (p4 : Int32) (p5 : Int32) : Bool := (if p1 = p2 then true else (if p1 = p3 then true else (if p1 = p4 then true else (if p1 = p5 then true else false))))
set_option linter.all false in
set_option maxHeartbeats 4000000 in
set_option maxRecDepth 100000 in
theorem c_X8_among (l : Launch) (D : va_G) (p1 : Int32) (p2 : Int32) (p3 : Int32) (p4 : Int32) (p5 : Int32) : CtI l yX8_among cX8_among 5 (some .boolean) { frames := 0, cells := 0, slots := 0, locals := 0 } D [.int p1, .int p2, .int p3, .int p4, .int p5] [] [] (fun (r : Int32) (u : Bool) => f_X8_among p1 p2 p3 p4 p5 = u ∧ r = bI u) (fun u => []) := by
  refine CtI.ofZ (by decide) (Nat.le_of_ble_eq_true rfl) ?_
  intro p e s m below meth c A ls Q hE hP hD hS hl hQ
  obtain ⟨hx, hb, hml, hown, ht, hN, hK, hA⟩ := hE
  have hown : s.vm.findClass RX8 = some m.cls := hown
  have hl : lv_has ls 5 [(0, .int p1), (1, .int p2), (2, .int p3), (3, .int p4), (4, .int p5)] := hl
  obtain ⟨F, hF⟩ : ∃ F, f_X8_among p1 p2 p3 p4 p5 = F := ⟨_, rfl⟩
  rw [hF] at hQ
  unfold f_X8_among at hF
  refine lv_iload_n hx hb dX8_among_0 rfl (lv_at hl 0 rfl) ?_
  refine lv_iload_n hx hb dX8_among_1 rfl (lv_at hl 1 rfl) ?_
  refine lv_icmp_eq (tgt := 21) hx hb dX8_among_2 (by decide) (fun c_1 => ?_) (fun c_1 => ?_)
  · skip
    rw [if_pos c_1] at hF
    refine lv_iconst (v := 1) hx hb dX8_among_21 (by decide) ?_
    refine lv_goto (tgt := 26) hx hb dX8_among_22 (by decide) ?_
    exact hQ true true _ _ _ _ dX8_among_26 ⟨hF.symm, rfl⟩ hP hD hS
  · skip
    rw [if_neg c_1] at hF
    refine lv_iload_n hx hb dX8_among_5 rfl (lv_at hl 0 rfl) ?_
    refine lv_iload_n hx hb dX8_among_6 rfl (lv_at hl 2 rfl) ?_
    refine lv_icmp_eq (tgt := 21) hx hb dX8_among_7 (by decide) (fun c_2 => ?_) (fun c_2 => ?_)
    · skip
      rw [if_pos c_2] at hF
      refine lv_iconst (v := 1) hx hb dX8_among_21 (by decide) ?_
      refine lv_goto (tgt := 26) hx hb dX8_among_22 (by decide) ?_
      exact hQ true true _ _ _ _ dX8_among_26 ⟨hF.symm, rfl⟩ hP hD hS
    · skip
      rw [if_neg c_2] at hF
      refine lv_iload_n hx hb dX8_among_10 rfl (lv_at hl 0 rfl) ?_
      refine lv_iload_n hx hb dX8_among_11 rfl (lv_at hl 3 rfl) ?_
      refine lv_icmp_eq (tgt := 21) hx hb dX8_among_12 (by decide) (fun c_3 => ?_) (fun c_3 => ?_)
      · skip
        rw [if_pos c_3] at hF
        refine lv_iconst (v := 1) hx hb dX8_among_21 (by decide) ?_
        refine lv_goto (tgt := 26) hx hb dX8_among_22 (by decide) ?_
        exact hQ true true _ _ _ _ dX8_among_26 ⟨hF.symm, rfl⟩ hP hD hS
      · skip
        rw [if_neg c_3] at hF
        refine lv_iload_n hx hb dX8_among_15 rfl (lv_at hl 0 rfl) ?_
        refine lv_iload hx hb dX8_among_16 (lv_at hl 4 rfl) ?_
        refine lv_icmp_ne (tgt := 25) hx hb dX8_among_18 (by decide) (fun c_4 => ?_) (fun c_4 => ?_)
        · skip
          rw [if_neg c_4] at hF
          refine lv_iconst (v := 0) hx hb dX8_among_25 (by decide) ?_
          exact hQ false false _ _ _ _ dX8_among_26 ⟨hF.symm, rfl⟩ hP hD hS
        · skip
          rw [if_pos c_4] at hF
          refine lv_iconst (v := 1) hx hb dX8_among_21 (by decide) ?_
          refine lv_goto (tgt := 26) hx hb dX8_among_22 (by decide) ?_
          exact hQ true true _ _ _ _ dX8_among_26 ⟨hF.symm, rfl⟩ hP hD hS
theorem cv_X8_among : qS yX8_among cX8_among 5 (some .boolean) 5 := ⟨kc_X8_among, kt_X8_among, kn_X8, by decide, by decide +kernel⟩
def f_X8_kindOf (p1 : Int32) : Int32 := (if (f_X8_among p1 8 9 130 156) = true then 2 else (if p1 = (157 : Int32) then 2 else (q_let (if (f_X8_among p1 5 7 10 18) = true then true else (if (f_X8_among p1 20 22 23 24) = true then true else (if p1 ≤ (24 : Int32) then false else (if (30 : Int32) ≤ p1 then false else true)))) fun y_4 => (q_let (if p1 ≤ (63 : Int32) then (if (f_X8_among p1 78 79 80 88) = true then true else (if p1 ≤ (88 : Int32) then false else (if (92 : Int32) ≤ p1 then false else true))) else (if (75 : Int32) ≤ p1 then (if (f_X8_among p1 78 79 80 88) = true then true else (if p1 ≤ (88 : Int32) then false else (if (92 : Int32) ≤ p1 then false else true))) else (if p1 = (68 : Int32) then (if (f_X8_among p1 78 79 80 88) = true then true else (if p1 ≤ (88 : Int32) then false else (if (92 : Int32) ≤ p1 then false else true))) else true))) fun y_11 => (q_let (if (f_X8_among p1 136 137 138 144) = true then true else (if (f_X8_among p1 145 146 148 149) = true then true else (if p1 = (150 : Int32) then true else (if p1 = (152 : Int32) then true else false)))) fun y_27 => (if y_4 = true then 1 else (if y_11 = true then 1 else (if y_27 = true then 1 else (if (f_X8_among p1 210 213 220 248) = true then 1 else (if p1 ≤ (248 : Int32) then 0 else (if (252 : Int32) ≤ p1 then 0 else 1)))))))))))
set_option linter.all false in
set_option maxHeartbeats 4000000 in
set_option maxRecDepth 100000 in
theorem c_X8_kindOf (l : Launch) (D : va_G) (p1 : Int32) : CtI l yX8_kindOf cX8_kindOf 4 (some .int) { frames := 1, cells := 0, slots := 0, locals := 24 } D [.int p1] [] [] (fun (r : Int32) (u : Int32) => f_X8_kindOf p1 = u ∧ r = u) (fun u => []) := by
  refine CtI.of (by decide) (Nat.le_of_ble_eq_true rfl) ?_
  intro p e s m below meth c A ls Q hE hP hD hS hl hQ
  obtain ⟨hx, hb, hml, hown, ht, hN, hK, hA⟩ := hE
  have hown : s.vm.findClass RX8 = some m.cls := hown
  have hl : lv_has ls 4 [(0, .int p1)] := hl
  obtain ⟨F, hF⟩ : ∃ F, f_X8_kindOf p1 = F := ⟨_, rfl⟩
  rw [hF] at hQ
  unfold f_X8_kindOf at hF
  refine lv_iload_n hx hb dX8_kindOf_0 rfl (lv_at hl 0 rfl) ?_
  refine lv_bipush (v := 8) hx hb dX8_kindOf_1 (by decide) ?_
  refine lv_bipush (v := 9) hx hb dX8_kindOf_3 (by decide) ?_
  refine lv_sipush (v := 130) hx hb dX8_kindOf_5 (by decide) ?_
  refine lv_sipush (v := 156) hx hb dX8_kindOf_8 (by decide) ?_
  refine q_Si (rest := []) (c_X8_among l D p1 8 9 130 156) cv_X8_among hx hb hml hown ht hN hK hA hP hD hS hl.1 (km_X8_115) ⟨Nat.le_of_ble_eq_true rfl, Nat.le_of_ble_eq_true rfl⟩ rfl rfl [] (by decide) rfl [] rfl (fun _ => rfl) rfl rfl (Nat.le_of_ble_eq_true rfl) dX8_kindOf_11 ⟨Nat.zero_le _, Nat.zero_le _⟩ (fun r u H locs hw hP hD hS => ?_)
  obtain ⟨rfl, rfl⟩ := hw
  have hP : va_P D vwCl [] H := hP
  have hD : va_D A [] := hD
  refine lv_if_ne (tgt := 24) hx hb dX8_kindOf_14 (by decide) (fun c_2 => ?_) (fun c_2 => ?_)
  · have c_2 := (bI_ne0 _).mp c_2
    rw [if_pos c_2] at hF
    refine lv_iconst (v := 2) hx hb dX8_kindOf_24 (by decide) ?_
    exact hQ 2 2 _ _ _ _ dX8_kindOf_25 ⟨hF.symm, rfl⟩ hP hD hS
  · have c_2 : ¬ (f_X8_among p1 8 9 130 156) = true := by rw [(bI_eq0 _).mp c_2]; decide
    rw [if_neg c_2] at hF
    refine lv_iload_n hx hb dX8_kindOf_17 rfl (lv_at hl 0 rfl) ?_
    refine lv_sipush (v := 157) hx hb dX8_kindOf_18 (by decide) ?_
    refine lv_icmp_ne (tgt := 26) hx hb dX8_kindOf_21 (by decide) (fun c_3 => ?_) (fun c_3 => ?_)
    · skip
      rw [if_neg c_3] at hF
      obtain ⟨y_4, hV⟩ : ∃ Y : Bool, (if (f_X8_among p1 5 7 10 18) = true then true else (if (f_X8_among p1 20 22 23 24) = true then true else (if p1 ≤ (24 : Int32) then false else (if (30 : Int32) ≤ p1 then false else true)))) = Y := ⟨_, rfl⟩
      rw [q_let_of hV] at hF
      have J4 : ∀ (H : Heap) (locs : List Loc), va_P D vwCl [] H → va_D A [] → va_S A s.heap H locs → W p l e ({ frames := 1, cells := 0, slots := 0, locals := 24 } : Room) s m ([.int p1] : List Value).toArray below meth c H locs 0 0 Q (F0 m 72 ls [.int (bI y_4)]) := by
        intro H locs hP hD hS
        clear hV
        refine lv_istore_n (lv' := [(1, .int (bI y_4)), (0, .int p1)]) hx hb dX8_kindOf_72 rfl hl (by decide) rfl (fun ls hl => ?_)
        obtain ⟨y_11, hV⟩ : ∃ Y : Bool, (if p1 ≤ (63 : Int32) then (if (f_X8_among p1 78 79 80 88) = true then true else (if p1 ≤ (88 : Int32) then false else (if (92 : Int32) ≤ p1 then false else true))) else (if (75 : Int32) ≤ p1 then (if (f_X8_among p1 78 79 80 88) = true then true else (if p1 ≤ (88 : Int32) then false else (if (92 : Int32) ≤ p1 then false else true))) else (if p1 = (68 : Int32) then (if (f_X8_among p1 78 79 80 88) = true then true else (if p1 ≤ (88 : Int32) then false else (if (92 : Int32) ≤ p1 then false else true))) else true))) = Y := ⟨_, rfl⟩
        rw [q_let_of hV] at hF
        have J11 : ∀ (H : Heap) (locs : List Loc), va_P D vwCl [] H → va_D A [] → va_S A s.heap H locs → W p l e ({ frames := 1, cells := 0, slots := 0, locals := 24 } : Room) s m ([.int p1] : List Value).toArray below meth c H locs 0 0 Q (F0 m 123 ls [.int (bI y_11)]) := by
          intro H locs hP hD hS
          clear hV
          refine lv_istore_n (lv' := [(2, .int (bI y_11)), (1, .int (bI y_4)), (0, .int p1)]) hx hb dX8_kindOf_123 rfl hl (by decide) rfl (fun ls hl => ?_)
          obtain ⟨y_27, hV⟩ : ∃ Y : Bool, (if (f_X8_among p1 136 137 138 144) = true then true else (if (f_X8_among p1 145 146 148 149) = true then true else (if p1 = (150 : Int32) then true else (if p1 = (152 : Int32) then true else false)))) = Y := ⟨_, rfl⟩
          rw [q_let_of hV] at hF
          have J27 : ∀ (H : Heap) (locs : List Loc), va_P D vwCl [] H → va_D A [] → va_S A s.heap H locs → W p l e ({ frames := 1, cells := 0, slots := 0, locals := 24 } : Room) s m ([.int p1] : List Value).toArray below meth c H locs 0 0 Q (F0 m 181 ls [.int (bI y_27)]) := by
            intro H locs hP hD hS
            clear hV
            refine lv_istore_n (lv' := [(3, .int (bI y_27)), (2, .int (bI y_11)), (1, .int (bI y_4)), (0, .int p1)]) hx hb dX8_kindOf_181 rfl hl (by decide) rfl (fun ls hl => ?_)
            refine lv_iload_n hx hb dX8_kindOf_182 rfl (lv_at hl 2 rfl) ?_
            refine lv_if_ne (tgt := 227) hx hb dX8_kindOf_183 (by decide) (fun c_34 => ?_) (fun c_34 => ?_)
            · have c_34 := (bI_ne0 _).mp c_34
              rw [if_pos c_34] at hF
              refine lv_iconst (v := 1) hx hb dX8_kindOf_227 (by decide) ?_
              refine lv_goto (tgt := 232) hx hb dX8_kindOf_228 (by decide) ?_
              exact hQ 1 1 _ _ _ _ dX8_kindOf_232 ⟨hF.symm, rfl⟩ hP hD hS
            · have c_34 : ¬ y_4 = true := by rw [(bI_eq0 _).mp c_34]; decide
              rw [if_neg c_34] at hF
              refine lv_iload_n hx hb dX8_kindOf_186 rfl (lv_at hl 1 rfl) ?_
              refine lv_if_ne (tgt := 227) hx hb dX8_kindOf_187 (by decide) (fun c_35 => ?_) (fun c_35 => ?_)
              · have c_35 := (bI_ne0 _).mp c_35
                rw [if_pos c_35] at hF
                refine lv_iconst (v := 1) hx hb dX8_kindOf_227 (by decide) ?_
                refine lv_goto (tgt := 232) hx hb dX8_kindOf_228 (by decide) ?_
                exact hQ 1 1 _ _ _ _ dX8_kindOf_232 ⟨hF.symm, rfl⟩ hP hD hS
              · have c_35 : ¬ y_11 = true := by rw [(bI_eq0 _).mp c_35]; decide
                rw [if_neg c_35] at hF
                refine lv_iload_n hx hb dX8_kindOf_190 rfl (lv_at hl 0 rfl) ?_
                refine lv_if_ne (tgt := 227) hx hb dX8_kindOf_191 (by decide) (fun c_36 => ?_) (fun c_36 => ?_)
                · have c_36 := (bI_ne0 _).mp c_36
                  rw [if_pos c_36] at hF
                  refine lv_iconst (v := 1) hx hb dX8_kindOf_227 (by decide) ?_
                  refine lv_goto (tgt := 232) hx hb dX8_kindOf_228 (by decide) ?_
                  exact hQ 1 1 _ _ _ _ dX8_kindOf_232 ⟨hF.symm, rfl⟩ hP hD hS
                · have c_36 : ¬ y_27 = true := by rw [(bI_eq0 _).mp c_36]; decide
                  rw [if_neg c_36] at hF
                  refine lv_iload_n hx hb dX8_kindOf_194 rfl (lv_at hl 3 rfl) ?_
                  refine lv_sipush (v := 210) hx hb dX8_kindOf_195 (by decide) ?_
                  refine lv_sipush (v := 213) hx hb dX8_kindOf_198 (by decide) ?_
                  refine lv_sipush (v := 220) hx hb dX8_kindOf_201 (by decide) ?_
                  refine lv_sipush (v := 248) hx hb dX8_kindOf_204 (by decide) ?_
                  refine q_Si (rest := []) (c_X8_among l D p1 210 213 220 248) cv_X8_among hx hb hml hown ht hN hK hA hP hD hS hl.1 (km_X8_115) ⟨Nat.le_of_ble_eq_true rfl, Nat.le_of_ble_eq_true rfl⟩ rfl rfl [] (by decide) rfl [] rfl (fun _ => rfl) rfl rfl (Nat.le_of_ble_eq_true rfl) dX8_kindOf_207 ⟨Nat.zero_le _, Nat.zero_le _⟩ (fun r u H locs hw hP hD hS => ?_)
                  obtain ⟨rfl, rfl⟩ := hw
                  have hP : va_P D vwCl [] H := hP
                  have hD : va_D A [] := hD
                  refine lv_if_ne (tgt := 227) hx hb dX8_kindOf_210 (by decide) (fun c_38 => ?_) (fun c_38 => ?_)
                  · have c_38 := (bI_ne0 _).mp c_38
                    rw [if_pos c_38] at hF
                    refine lv_iconst (v := 1) hx hb dX8_kindOf_227 (by decide) ?_
                    refine lv_goto (tgt := 232) hx hb dX8_kindOf_228 (by decide) ?_
                    exact hQ 1 1 _ _ _ _ dX8_kindOf_232 ⟨hF.symm, rfl⟩ hP hD hS
                  · have c_38 : ¬ (f_X8_among p1 210 213 220 248) = true := by rw [(bI_eq0 _).mp c_38]; decide
                    rw [if_neg c_38] at hF
                    refine lv_iload_n hx hb dX8_kindOf_213 rfl (lv_at hl 3 rfl) ?_
                    refine lv_sipush (v := 248) hx hb dX8_kindOf_214 (by decide) ?_
                    refine lv_icmp_le (tgt := 231) hx hb dX8_kindOf_217 (by decide) (fun c_39 => ?_) (fun c_39 => ?_)
                    · skip
                      rw [if_pos c_39] at hF
                      refine lv_iconst (v := 0) hx hb dX8_kindOf_231 (by decide) ?_
                      exact hQ 0 0 _ _ _ _ dX8_kindOf_232 ⟨hF.symm, rfl⟩ hP hD hS
                    · skip
                      rw [if_neg c_39] at hF
                      refine lv_iload_n hx hb dX8_kindOf_220 rfl (lv_at hl 3 rfl) ?_
                      refine lv_sipush (v := 252) hx hb dX8_kindOf_221 (by decide) ?_
                      refine lv_icmp_ge (tgt := 231) hx hb dX8_kindOf_224 (by decide) (fun c_40 => ?_) (fun c_40 => ?_)
                      · skip
                        rw [if_pos c_40] at hF
                        refine lv_iconst (v := 0) hx hb dX8_kindOf_231 (by decide) ?_
                        exact hQ 0 0 _ _ _ _ dX8_kindOf_232 ⟨hF.symm, rfl⟩ hP hD hS
                      · skip
                        rw [if_neg c_40] at hF
                        refine lv_iconst (v := 1) hx hb dX8_kindOf_227 (by decide) ?_
                        refine lv_goto (tgt := 232) hx hb dX8_kindOf_228 (by decide) ?_
                        exact hQ 1 1 _ _ _ _ dX8_kindOf_232 ⟨hF.symm, rfl⟩ hP hD hS
          refine lv_iload_n hx hb dX8_kindOf_124 rfl (lv_at hl 2 rfl) ?_
          refine lv_sipush (v := 136) hx hb dX8_kindOf_125 (by decide) ?_
          refine lv_sipush (v := 137) hx hb dX8_kindOf_128 (by decide) ?_
          refine lv_sipush (v := 138) hx hb dX8_kindOf_131 (by decide) ?_
          refine lv_sipush (v := 144) hx hb dX8_kindOf_134 (by decide) ?_
          refine q_Si (rest := []) (c_X8_among l D p1 136 137 138 144) cv_X8_among hx hb hml hown ht hN hK hA hP hD hS hl.1 (km_X8_115) ⟨Nat.le_of_ble_eq_true rfl, Nat.le_of_ble_eq_true rfl⟩ rfl rfl [] (by decide) rfl [] rfl (fun _ => rfl) rfl rfl (Nat.le_of_ble_eq_true rfl) dX8_kindOf_137 ⟨Nat.zero_le _, Nat.zero_le _⟩ (fun r u H locs hw hP hD hS => ?_)
          obtain ⟨rfl, rfl⟩ := hw
          have hP : va_P D vwCl [] H := hP
          have hD : va_D A [] := hD
          refine lv_if_ne (tgt := 176) hx hb dX8_kindOf_140 (by decide) (fun c_29 => ?_) (fun c_29 => ?_)
          · have c_29 := (bI_ne0 _).mp c_29
            rw [if_pos c_29] at hV
            refine lv_iconst (v := 1) hx hb dX8_kindOf_176 (by decide) ?_
            refine lv_goto (tgt := 181) hx hb dX8_kindOf_177 (by decide) ?_
            subst hV
            exact J27 _ _ hP hD hS
          · have c_29 : ¬ (f_X8_among p1 136 137 138 144) = true := by rw [(bI_eq0 _).mp c_29]; decide
            rw [if_neg c_29] at hV
            refine lv_iload_n hx hb dX8_kindOf_143 rfl (lv_at hl 2 rfl) ?_
            refine lv_sipush (v := 145) hx hb dX8_kindOf_144 (by decide) ?_
            refine lv_sipush (v := 146) hx hb dX8_kindOf_147 (by decide) ?_
            refine lv_sipush (v := 148) hx hb dX8_kindOf_150 (by decide) ?_
            refine lv_sipush (v := 149) hx hb dX8_kindOf_153 (by decide) ?_
            refine q_Si (rest := []) (c_X8_among l D p1 145 146 148 149) cv_X8_among hx hb hml hown ht hN hK hA hP hD hS hl.1 (km_X8_115) ⟨Nat.le_of_ble_eq_true rfl, Nat.le_of_ble_eq_true rfl⟩ rfl rfl [] (by decide) rfl [] rfl (fun _ => rfl) rfl rfl (Nat.le_of_ble_eq_true rfl) dX8_kindOf_156 ⟨Nat.zero_le _, Nat.zero_le _⟩ (fun r u H locs hw hP hD hS => ?_)
            obtain ⟨rfl, rfl⟩ := hw
            have hP : va_P D vwCl [] H := hP
            have hD : va_D A [] := hD
            refine lv_if_ne (tgt := 176) hx hb dX8_kindOf_159 (by decide) (fun c_31 => ?_) (fun c_31 => ?_)
            · have c_31 := (bI_ne0 _).mp c_31
              rw [if_pos c_31] at hV
              refine lv_iconst (v := 1) hx hb dX8_kindOf_176 (by decide) ?_
              refine lv_goto (tgt := 181) hx hb dX8_kindOf_177 (by decide) ?_
              subst hV
              exact J27 _ _ hP hD hS
            · have c_31 : ¬ (f_X8_among p1 145 146 148 149) = true := by rw [(bI_eq0 _).mp c_31]; decide
              rw [if_neg c_31] at hV
              refine lv_iload_n hx hb dX8_kindOf_162 rfl (lv_at hl 2 rfl) ?_
              refine lv_sipush (v := 150) hx hb dX8_kindOf_163 (by decide) ?_
              refine lv_icmp_eq (tgt := 176) hx hb dX8_kindOf_166 (by decide) (fun c_32 => ?_) (fun c_32 => ?_)
              · skip
                rw [if_pos c_32] at hV
                refine lv_iconst (v := 1) hx hb dX8_kindOf_176 (by decide) ?_
                refine lv_goto (tgt := 181) hx hb dX8_kindOf_177 (by decide) ?_
                subst hV
                exact J27 _ _ hP hD hS
              · skip
                rw [if_neg c_32] at hV
                refine lv_iload_n hx hb dX8_kindOf_169 rfl (lv_at hl 2 rfl) ?_
                refine lv_sipush (v := 152) hx hb dX8_kindOf_170 (by decide) ?_
                refine lv_icmp_ne (tgt := 180) hx hb dX8_kindOf_173 (by decide) (fun c_33 => ?_) (fun c_33 => ?_)
                · skip
                  rw [if_neg c_33] at hV
                  refine lv_iconst (v := 0) hx hb dX8_kindOf_180 (by decide) ?_
                  subst hV
                  exact J27 _ _ hP hD hS
                · skip
                  rw [if_pos c_33] at hV
                  refine lv_iconst (v := 1) hx hb dX8_kindOf_176 (by decide) ?_
                  refine lv_goto (tgt := 181) hx hb dX8_kindOf_177 (by decide) ?_
                  subst hV
                  exact J27 _ _ hP hD hS
        refine lv_iload_n hx hb dX8_kindOf_73 rfl (lv_at hl 1 rfl) ?_
        refine lv_bipush (v := 63) hx hb dX8_kindOf_74 (by decide) ?_
        refine lv_icmp_le (tgt := 91) hx hb dX8_kindOf_76 (by decide) (fun c_12 => ?_) (fun c_12 => ?_)
        · skip
          rw [if_pos c_12] at hV
          refine lv_iload_n hx hb dX8_kindOf_91 rfl (lv_at hl 1 rfl) ?_
          refine lv_bipush (v := 78) hx hb dX8_kindOf_92 (by decide) ?_
          refine lv_bipush (v := 79) hx hb dX8_kindOf_94 (by decide) ?_
          refine lv_bipush (v := 80) hx hb dX8_kindOf_96 (by decide) ?_
          refine lv_bipush (v := 88) hx hb dX8_kindOf_98 (by decide) ?_
          refine q_Si (rest := []) (c_X8_among l D p1 78 79 80 88) cv_X8_among hx hb hml hown ht hN hK hA hP hD hS hl.1 (km_X8_115) ⟨Nat.le_of_ble_eq_true rfl, Nat.le_of_ble_eq_true rfl⟩ rfl rfl [] (by decide) rfl [] rfl (fun _ => rfl) rfl rfl (Nat.le_of_ble_eq_true rfl) dX8_kindOf_100 ⟨Nat.zero_le _, Nat.zero_le _⟩ (fun r u H locs hw hP hD hS => ?_)
          obtain ⟨rfl, rfl⟩ := hw
          have hP : va_P D vwCl [] H := hP
          have hD : va_D A [] := hD
          refine lv_if_ne (tgt := 118) hx hb dX8_kindOf_103 (by decide) (fun c_14 => ?_) (fun c_14 => ?_)
          · have c_14 := (bI_ne0 _).mp c_14
            rw [if_pos c_14] at hV
            refine lv_iconst (v := 1) hx hb dX8_kindOf_118 (by decide) ?_
            refine lv_goto (tgt := 123) hx hb dX8_kindOf_119 (by decide) ?_
            subst hV
            exact J11 _ _ hP hD hS
          · have c_14 : ¬ (f_X8_among p1 78 79 80 88) = true := by rw [(bI_eq0 _).mp c_14]; decide
            rw [if_neg c_14] at hV
            refine lv_iload_n hx hb dX8_kindOf_106 rfl (lv_at hl 1 rfl) ?_
            refine lv_bipush (v := 88) hx hb dX8_kindOf_107 (by decide) ?_
            refine lv_icmp_le (tgt := 122) hx hb dX8_kindOf_109 (by decide) (fun c_15 => ?_) (fun c_15 => ?_)
            · skip
              rw [if_pos c_15] at hV
              refine lv_iconst (v := 0) hx hb dX8_kindOf_122 (by decide) ?_
              subst hV
              exact J11 _ _ hP hD hS
            · skip
              rw [if_neg c_15] at hV
              refine lv_iload_n hx hb dX8_kindOf_112 rfl (lv_at hl 1 rfl) ?_
              refine lv_bipush (v := 92) hx hb dX8_kindOf_113 (by decide) ?_
              refine lv_icmp_ge (tgt := 122) hx hb dX8_kindOf_115 (by decide) (fun c_16 => ?_) (fun c_16 => ?_)
              · skip
                rw [if_pos c_16] at hV
                refine lv_iconst (v := 0) hx hb dX8_kindOf_122 (by decide) ?_
                subst hV
                exact J11 _ _ hP hD hS
              · skip
                rw [if_neg c_16] at hV
                refine lv_iconst (v := 1) hx hb dX8_kindOf_118 (by decide) ?_
                refine lv_goto (tgt := 123) hx hb dX8_kindOf_119 (by decide) ?_
                subst hV
                exact J11 _ _ hP hD hS
        · skip
          rw [if_neg c_12] at hV
          refine lv_iload_n hx hb dX8_kindOf_79 rfl (lv_at hl 1 rfl) ?_
          refine lv_bipush (v := 75) hx hb dX8_kindOf_80 (by decide) ?_
          refine lv_icmp_ge (tgt := 91) hx hb dX8_kindOf_82 (by decide) (fun c_17 => ?_) (fun c_17 => ?_)
          · skip
            rw [if_pos c_17] at hV
            refine lv_iload_n hx hb dX8_kindOf_91 rfl (lv_at hl 1 rfl) ?_
            refine lv_bipush (v := 78) hx hb dX8_kindOf_92 (by decide) ?_
            refine lv_bipush (v := 79) hx hb dX8_kindOf_94 (by decide) ?_
            refine lv_bipush (v := 80) hx hb dX8_kindOf_96 (by decide) ?_
            refine lv_bipush (v := 88) hx hb dX8_kindOf_98 (by decide) ?_
            refine q_Si (rest := []) (c_X8_among l D p1 78 79 80 88) cv_X8_among hx hb hml hown ht hN hK hA hP hD hS hl.1 (km_X8_115) ⟨Nat.le_of_ble_eq_true rfl, Nat.le_of_ble_eq_true rfl⟩ rfl rfl [] (by decide) rfl [] rfl (fun _ => rfl) rfl rfl (Nat.le_of_ble_eq_true rfl) dX8_kindOf_100 ⟨Nat.zero_le _, Nat.zero_le _⟩ (fun r u H locs hw hP hD hS => ?_)
            obtain ⟨rfl, rfl⟩ := hw
            have hP : va_P D vwCl [] H := hP
            have hD : va_D A [] := hD
            refine lv_if_ne (tgt := 118) hx hb dX8_kindOf_103 (by decide) (fun c_19 => ?_) (fun c_19 => ?_)
            · have c_19 := (bI_ne0 _).mp c_19
              rw [if_pos c_19] at hV
              refine lv_iconst (v := 1) hx hb dX8_kindOf_118 (by decide) ?_
              refine lv_goto (tgt := 123) hx hb dX8_kindOf_119 (by decide) ?_
              subst hV
              exact J11 _ _ hP hD hS
            · have c_19 : ¬ (f_X8_among p1 78 79 80 88) = true := by rw [(bI_eq0 _).mp c_19]; decide
              rw [if_neg c_19] at hV
              refine lv_iload_n hx hb dX8_kindOf_106 rfl (lv_at hl 1 rfl) ?_
              refine lv_bipush (v := 88) hx hb dX8_kindOf_107 (by decide) ?_
              refine lv_icmp_le (tgt := 122) hx hb dX8_kindOf_109 (by decide) (fun c_20 => ?_) (fun c_20 => ?_)
              · skip
                rw [if_pos c_20] at hV
                refine lv_iconst (v := 0) hx hb dX8_kindOf_122 (by decide) ?_
                subst hV
                exact J11 _ _ hP hD hS
              · skip
                rw [if_neg c_20] at hV
                refine lv_iload_n hx hb dX8_kindOf_112 rfl (lv_at hl 1 rfl) ?_
                refine lv_bipush (v := 92) hx hb dX8_kindOf_113 (by decide) ?_
                refine lv_icmp_ge (tgt := 122) hx hb dX8_kindOf_115 (by decide) (fun c_21 => ?_) (fun c_21 => ?_)
                · skip
                  rw [if_pos c_21] at hV
                  refine lv_iconst (v := 0) hx hb dX8_kindOf_122 (by decide) ?_
                  subst hV
                  exact J11 _ _ hP hD hS
                · skip
                  rw [if_neg c_21] at hV
                  refine lv_iconst (v := 1) hx hb dX8_kindOf_118 (by decide) ?_
                  refine lv_goto (tgt := 123) hx hb dX8_kindOf_119 (by decide) ?_
                  subst hV
                  exact J11 _ _ hP hD hS
          · skip
            rw [if_neg c_17] at hV
            refine lv_iload_n hx hb dX8_kindOf_85 rfl (lv_at hl 1 rfl) ?_
            refine lv_bipush (v := 68) hx hb dX8_kindOf_86 (by decide) ?_
            refine lv_icmp_ne (tgt := 118) hx hb dX8_kindOf_88 (by decide) (fun c_22 => ?_) (fun c_22 => ?_)
            · skip
              rw [if_neg c_22] at hV
              refine lv_iconst (v := 1) hx hb dX8_kindOf_118 (by decide) ?_
              refine lv_goto (tgt := 123) hx hb dX8_kindOf_119 (by decide) ?_
              subst hV
              exact J11 _ _ hP hD hS
            · skip
              rw [if_pos c_22] at hV
              refine lv_iload_n hx hb dX8_kindOf_91 rfl (lv_at hl 1 rfl) ?_
              refine lv_bipush (v := 78) hx hb dX8_kindOf_92 (by decide) ?_
              refine lv_bipush (v := 79) hx hb dX8_kindOf_94 (by decide) ?_
              refine lv_bipush (v := 80) hx hb dX8_kindOf_96 (by decide) ?_
              refine lv_bipush (v := 88) hx hb dX8_kindOf_98 (by decide) ?_
              refine q_Si (rest := []) (c_X8_among l D p1 78 79 80 88) cv_X8_among hx hb hml hown ht hN hK hA hP hD hS hl.1 (km_X8_115) ⟨Nat.le_of_ble_eq_true rfl, Nat.le_of_ble_eq_true rfl⟩ rfl rfl [] (by decide) rfl [] rfl (fun _ => rfl) rfl rfl (Nat.le_of_ble_eq_true rfl) dX8_kindOf_100 ⟨Nat.zero_le _, Nat.zero_le _⟩ (fun r u H locs hw hP hD hS => ?_)
              obtain ⟨rfl, rfl⟩ := hw
              have hP : va_P D vwCl [] H := hP
              have hD : va_D A [] := hD
              refine lv_if_ne (tgt := 118) hx hb dX8_kindOf_103 (by decide) (fun c_24 => ?_) (fun c_24 => ?_)
              · have c_24 := (bI_ne0 _).mp c_24
                rw [if_pos c_24] at hV
                refine lv_iconst (v := 1) hx hb dX8_kindOf_118 (by decide) ?_
                refine lv_goto (tgt := 123) hx hb dX8_kindOf_119 (by decide) ?_
                subst hV
                exact J11 _ _ hP hD hS
              · have c_24 : ¬ (f_X8_among p1 78 79 80 88) = true := by rw [(bI_eq0 _).mp c_24]; decide
                rw [if_neg c_24] at hV
                refine lv_iload_n hx hb dX8_kindOf_106 rfl (lv_at hl 1 rfl) ?_
                refine lv_bipush (v := 88) hx hb dX8_kindOf_107 (by decide) ?_
                refine lv_icmp_le (tgt := 122) hx hb dX8_kindOf_109 (by decide) (fun c_25 => ?_) (fun c_25 => ?_)
                · skip
                  rw [if_pos c_25] at hV
                  refine lv_iconst (v := 0) hx hb dX8_kindOf_122 (by decide) ?_
                  subst hV
                  exact J11 _ _ hP hD hS
                · skip
                  rw [if_neg c_25] at hV
                  refine lv_iload_n hx hb dX8_kindOf_112 rfl (lv_at hl 1 rfl) ?_
                  refine lv_bipush (v := 92) hx hb dX8_kindOf_113 (by decide) ?_
                  refine lv_icmp_ge (tgt := 122) hx hb dX8_kindOf_115 (by decide) (fun c_26 => ?_) (fun c_26 => ?_)
                  · skip
                    rw [if_pos c_26] at hV
                    refine lv_iconst (v := 0) hx hb dX8_kindOf_122 (by decide) ?_
                    subst hV
                    exact J11 _ _ hP hD hS
                  · skip
                    rw [if_neg c_26] at hV
                    refine lv_iconst (v := 1) hx hb dX8_kindOf_118 (by decide) ?_
                    refine lv_goto (tgt := 123) hx hb dX8_kindOf_119 (by decide) ?_
                    subst hV
                    exact J11 _ _ hP hD hS
      refine lv_iload_n hx hb dX8_kindOf_26 rfl (lv_at hl 0 rfl) ?_
      refine lv_iconst (v := 5) hx hb dX8_kindOf_27 (by decide) ?_
      refine lv_bipush (v := 7) hx hb dX8_kindOf_28 (by decide) ?_
      refine lv_bipush (v := 10) hx hb dX8_kindOf_30 (by decide) ?_
      refine lv_bipush (v := 18) hx hb dX8_kindOf_32 (by decide) ?_
      refine q_Si (rest := []) (c_X8_among l D p1 5 7 10 18) cv_X8_among hx hb hml hown ht hN hK hA hP hD hS hl.1 (km_X8_115) ⟨Nat.le_of_ble_eq_true rfl, Nat.le_of_ble_eq_true rfl⟩ rfl rfl [] (by decide) rfl [] rfl (fun _ => rfl) rfl rfl (Nat.le_of_ble_eq_true rfl) dX8_kindOf_34 ⟨Nat.zero_le _, Nat.zero_le _⟩ (fun r u H locs hw hP hD hS => ?_)
      obtain ⟨rfl, rfl⟩ := hw
      have hP : va_P D vwCl [] H := hP
      have hD : va_D A [] := hD
      refine lv_if_ne (tgt := 67) hx hb dX8_kindOf_37 (by decide) (fun c_6 => ?_) (fun c_6 => ?_)
      · have c_6 := (bI_ne0 _).mp c_6
        rw [if_pos c_6] at hV
        refine lv_iconst (v := 1) hx hb dX8_kindOf_67 (by decide) ?_
        refine lv_goto (tgt := 72) hx hb dX8_kindOf_68 (by decide) ?_
        subst hV
        exact J4 _ _ hP hD hS
      · have c_6 : ¬ (f_X8_among p1 5 7 10 18) = true := by rw [(bI_eq0 _).mp c_6]; decide
        rw [if_neg c_6] at hV
        refine lv_iload_n hx hb dX8_kindOf_40 rfl (lv_at hl 0 rfl) ?_
        refine lv_bipush (v := 20) hx hb dX8_kindOf_41 (by decide) ?_
        refine lv_bipush (v := 22) hx hb dX8_kindOf_43 (by decide) ?_
        refine lv_bipush (v := 23) hx hb dX8_kindOf_45 (by decide) ?_
        refine lv_bipush (v := 24) hx hb dX8_kindOf_47 (by decide) ?_
        refine q_Si (rest := []) (c_X8_among l D p1 20 22 23 24) cv_X8_among hx hb hml hown ht hN hK hA hP hD hS hl.1 (km_X8_115) ⟨Nat.le_of_ble_eq_true rfl, Nat.le_of_ble_eq_true rfl⟩ rfl rfl [] (by decide) rfl [] rfl (fun _ => rfl) rfl rfl (Nat.le_of_ble_eq_true rfl) dX8_kindOf_49 ⟨Nat.zero_le _, Nat.zero_le _⟩ (fun r u H locs hw hP hD hS => ?_)
        obtain ⟨rfl, rfl⟩ := hw
        have hP : va_P D vwCl [] H := hP
        have hD : va_D A [] := hD
        refine lv_if_ne (tgt := 67) hx hb dX8_kindOf_52 (by decide) (fun c_8 => ?_) (fun c_8 => ?_)
        · have c_8 := (bI_ne0 _).mp c_8
          rw [if_pos c_8] at hV
          refine lv_iconst (v := 1) hx hb dX8_kindOf_67 (by decide) ?_
          refine lv_goto (tgt := 72) hx hb dX8_kindOf_68 (by decide) ?_
          subst hV
          exact J4 _ _ hP hD hS
        · have c_8 : ¬ (f_X8_among p1 20 22 23 24) = true := by rw [(bI_eq0 _).mp c_8]; decide
          rw [if_neg c_8] at hV
          refine lv_iload_n hx hb dX8_kindOf_55 rfl (lv_at hl 0 rfl) ?_
          refine lv_bipush (v := 24) hx hb dX8_kindOf_56 (by decide) ?_
          refine lv_icmp_le (tgt := 71) hx hb dX8_kindOf_58 (by decide) (fun c_9 => ?_) (fun c_9 => ?_)
          · skip
            rw [if_pos c_9] at hV
            refine lv_iconst (v := 0) hx hb dX8_kindOf_71 (by decide) ?_
            subst hV
            exact J4 _ _ hP hD hS
          · skip
            rw [if_neg c_9] at hV
            refine lv_iload_n hx hb dX8_kindOf_61 rfl (lv_at hl 0 rfl) ?_
            refine lv_bipush (v := 30) hx hb dX8_kindOf_62 (by decide) ?_
            refine lv_icmp_ge (tgt := 71) hx hb dX8_kindOf_64 (by decide) (fun c_10 => ?_) (fun c_10 => ?_)
            · skip
              rw [if_pos c_10] at hV
              refine lv_iconst (v := 0) hx hb dX8_kindOf_71 (by decide) ?_
              subst hV
              exact J4 _ _ hP hD hS
            · skip
              rw [if_neg c_10] at hV
              refine lv_iconst (v := 1) hx hb dX8_kindOf_67 (by decide) ?_
              refine lv_goto (tgt := 72) hx hb dX8_kindOf_68 (by decide) ?_
              subst hV
              exact J4 _ _ hP hD hS
    · skip
      rw [if_pos c_3] at hF
      refine lv_iconst (v := 2) hx hb dX8_kindOf_24 (by decide) ?_
      exact hQ 2 2 _ _ _ _ dX8_kindOf_25 ⟨hF.symm, rfl⟩ hP hD hS
theorem cv_X8_kindOf : qS yX8_kindOf cX8_kindOf 4 (some .int) 1 := ⟨kc_X8_kindOf, kt_X8_kindOf, kn_X8, by decide, by decide +kernel⟩
def f_X8_effective (r_this_bytes : Nat → Int32) (r_this_reg : Nat → Int32) (p1 : Int32) (p2 : Int32) : Int32 := (if ((r_this_bytes p1.toNatClampNeg) / (16 : Int32)) ≤ 0 then (if p2 ≤ 0 then (((((r_this_bytes p1.toNatClampNeg) - (r_this_bytes p1.toNatClampNeg) / (16 : Int32) * (16 : Int32)) * (256 : Int32)) + (r_this_bytes (p1 + (1 : Int32)).toNatClampNeg)) &&& (16777215 : Int32)) else ((((((r_this_bytes p1.toNatClampNeg) - (r_this_bytes p1.toNatClampNeg) / (16 : Int32) * (16 : Int32)) * (256 : Int32)) + (r_this_bytes (p1 + (1 : Int32)).toNatClampNeg)) + (r_this_reg p2.toNatClampNeg)) &&& (16777215 : Int32))) else (if p2 ≤ 0 then ((((((r_this_bytes p1.toNatClampNeg) - (r_this_bytes p1.toNatClampNeg) / (16 : Int32) * (16 : Int32)) * (256 : Int32)) + (r_this_bytes (p1 + (1 : Int32)).toNatClampNeg)) + (r_this_reg ((r_this_bytes p1.toNatClampNeg) / (16 : Int32)).toNatClampNeg)) &&& (16777215 : Int32)) else (((((((r_this_bytes p1.toNatClampNeg) - (r_this_bytes p1.toNatClampNeg) / (16 : Int32) * (16 : Int32)) * (256 : Int32)) + (r_this_bytes (p1 + (1 : Int32)).toNatClampNeg)) + (r_this_reg ((r_this_bytes p1.toNatClampNeg) / (16 : Int32)).toNatClampNeg)) + (r_this_reg p2.toNatClampNeg)) &&& (16777215 : Int32))))
def s_X8_effective (r_this_bytes : Nat → Int32) (p1 : Int32) (p2 : Int32) : Prop := (vp_in p1 2048 ∧ (vp_in p1 2048 ∧ (vp_in (p1 + (1 : Int32)) 2048 ∧ (if ((r_this_bytes p1.toNatClampNeg) / (16 : Int32)) ≤ 0 then (if p2 ≤ 0 then True else vp_in p2 16) else (vp_in ((r_this_bytes p1.toNatClampNeg) / (16 : Int32)) 16 ∧ (if p2 ≤ 0 then True else vp_in p2 16))))))
set_option linter.all false in
set_option maxHeartbeats 4000000 in
set_option maxRecDepth 100000 in
theorem c_X8_effective (l : Launch) (D : va_G) (a_this a_this_bytes a_this_reg a_this_keys a_this_card a_this_filled a_this_taken a_this_line a_this_one a_this_two : Nat) (k_this_bytes k_this_reg : ClassId) (o_this : Int32 × Int32 × Int32 × Int32 × Bool × Bool × Int32 × Int32 × Int32 × Int32 × Bool × Bool × Bool × Int32 × Int32 × Int32 × Int32 × Int32 × Int32 × Int32 × Int32 × Int32 × Int32 × Int32 × Int32) (r_this_bytes : Nat → Int32) (r_this_reg : Nat → Int32) (p1 : Int32) (p2 : Int32) (hs : s_X8_effective r_this_bytes p1 p2) : CtI l yX8_effective cX8_effective 5 (some .int) { frames := 0, cells := 0, slots := 0, locals := 0 } D [.ref a_this, .int p1, .int p2] [(a_this, oX8 a_this_bytes a_this_keys a_this_reg a_this_card a_this_filled a_this_taken a_this_line a_this_one a_this_two o_this), (a_this_bytes, .inl (k_this_bytes, 2048, .inl r_this_bytes)), (a_this_reg, .inl (k_this_reg, 16, .inl r_this_reg))] [(k_this_bytes, .int), (k_this_reg, .int)] (fun (r : Int32) (u : Int32) => f_X8_effective r_this_bytes r_this_reg p1 p2 = u ∧ r = u) (fun u => [(a_this, oX8 a_this_bytes a_this_keys a_this_reg a_this_card a_this_filled a_this_taken a_this_line a_this_one a_this_two o_this), (a_this_bytes, .inl (k_this_bytes, 2048, .inl r_this_bytes)), (a_this_reg, .inl (k_this_reg, 16, .inl r_this_reg))]) := by
  refine CtI.of (by decide) (Nat.le_of_ble_eq_true rfl) ?_
  intro p e s m below meth c A ls Q hE hP hD hS hl hQ
  obtain ⟨hx, hb, hml, hown, ht, hN, hK, hA⟩ := hE
  have hown : s.vm.findClass RX8 = some m.cls := hown
  have hl : lv_has ls 5 [(0, .ref a_this), (1, .int p1), (2, .int p2)] := hl
  obtain ⟨F, hF⟩ : ∃ F, f_X8_effective r_this_bytes r_this_reg p1 p2 = F := ⟨_, rfl⟩
  rw [hF] at hQ
  unfold f_X8_effective at hF
  unfold s_X8_effective at hs
  refine lv_aload_n hx hb dX8_effective_0 rfl (lv_at hl 0 rfl) ?_
  refine gf_X8_7 (v := .ref a_this_bytes) hx hb hown ht hK hP 0 rfl rfl dX8_effective_1 ?_
  refine lv_iload_n hx hb dX8_effective_4 rfl (lv_at hl 1 rfl) ?_
  obtain ⟨hi_1, hs⟩ := hs
  refine va_iald hx hb hK hP 1 0 rfl rfl hi_1 dX8_effective_5 ?_
  refine lv_bipush (v := 16) hx hb dX8_effective_6 (by decide) ?_
  refine lv_idiv hx hb dX8_effective_8 (by decide) ?_
  refine lv_istore_n (lv' := [(3, .int ((r_this_bytes p1.toNatClampNeg) / (16 : Int32))), (0, .ref a_this), (1, .int p1), (2, .int p2)]) hx hb dX8_effective_9 rfl hl (by decide) rfl (fun ls hl => ?_)
  refine lv_aload_n hx hb dX8_effective_10 rfl (lv_at hl 1 rfl) ?_
  refine gf_X8_7 (v := .ref a_this_bytes) hx hb hown ht hK hP 0 rfl rfl dX8_effective_11 ?_
  refine lv_iload_n hx hb dX8_effective_14 rfl (lv_at hl 2 rfl) ?_
  obtain ⟨hi_2, hs⟩ := hs
  refine va_iald hx hb hK hP 1 0 rfl rfl hi_2 dX8_effective_15 ?_
  refine lv_bipush (v := 16) hx hb dX8_effective_16 (by decide) ?_
  refine lv_irem hx hb dX8_effective_18 (by decide) ?_
  refine lv_sipush (v := 256) hx hb dX8_effective_19 (by decide) ?_
  refine lv_imul hx hb dX8_effective_22 ?_
  refine lv_aload_n hx hb dX8_effective_23 rfl (lv_at hl 1 rfl) ?_
  refine gf_X8_7 (v := .ref a_this_bytes) hx hb hown ht hK hP 0 rfl rfl dX8_effective_24 ?_
  refine lv_iload_n hx hb dX8_effective_27 rfl (lv_at hl 2 rfl) ?_
  refine lv_iconst (v := 1) hx hb dX8_effective_28 (by decide) ?_
  refine lv_iadd hx hb dX8_effective_29 ?_
  obtain ⟨hi_3, hs⟩ := hs
  refine va_iald hx hb hK hP 1 0 rfl rfl hi_3 dX8_effective_30 ?_
  refine lv_iadd hx hb dX8_effective_31 ?_
  refine lv_istore (lv' := [(4, .int ((((r_this_bytes p1.toNatClampNeg) - (r_this_bytes p1.toNatClampNeg) / (16 : Int32) * (16 : Int32)) * (256 : Int32)) + (r_this_bytes (p1 + (1 : Int32)).toNatClampNeg))), (3, .int ((r_this_bytes p1.toNatClampNeg) / (16 : Int32))), (0, .ref a_this), (1, .int p1), (2, .int p2)]) hx hb dX8_effective_32 hl (by decide) rfl (fun ls hl => ?_)
  refine lv_iload_n hx hb dX8_effective_34 rfl (lv_at hl 1 rfl) ?_
  refine lv_if_le (tgt := 50) hx hb dX8_effective_35 (by decide) (fun c_4 => ?_) (fun c_4 => ?_)
  · skip
    rw [if_pos c_4] at hF
    rw [if_pos c_4] at hs
    refine lv_iload hx hb dX8_effective_50 (lv_at hl 0 rfl) ?_
    refine lv_istore (lv' := [(4, .int ((((r_this_bytes p1.toNatClampNeg) - (r_this_bytes p1.toNatClampNeg) / (16 : Int32) * (16 : Int32)) * (256 : Int32)) + (r_this_bytes (p1 + (1 : Int32)).toNatClampNeg))), (3, .int ((r_this_bytes p1.toNatClampNeg) / (16 : Int32))), (0, .ref a_this), (1, .int p1), (2, .int p2)]) hx hb dX8_effective_52 hl (by decide) rfl (fun ls hl => ?_)
    refine lv_iload_n hx hb dX8_effective_54 rfl (lv_at hl 4 rfl) ?_
    refine lv_if_le (tgt := 70) hx hb dX8_effective_55 (by decide) (fun c_5 => ?_) (fun c_5 => ?_)
    · skip
      rw [if_pos c_5] at hF
      rw [if_pos c_5] at hs
      refine lv_iload hx hb dX8_effective_70 (lv_at hl 0 rfl) ?_
      refine lv_istore (lv' := [(4, .int ((((r_this_bytes p1.toNatClampNeg) - (r_this_bytes p1.toNatClampNeg) / (16 : Int32) * (16 : Int32)) * (256 : Int32)) + (r_this_bytes (p1 + (1 : Int32)).toNatClampNeg))), (3, .int ((r_this_bytes p1.toNatClampNeg) / (16 : Int32))), (0, .ref a_this), (1, .int p1), (2, .int p2)]) hx hb dX8_effective_72 hl (by decide) rfl (fun ls hl => ?_)
      refine lv_iload hx hb dX8_effective_74 (lv_at hl 0 rfl) ?_
      refine lv_ldc (v := 16777215) hx hb hown (ht _ ki_X8_119) dX8_effective_76 ?_
      refine lv_iand hx hb dX8_effective_78 ?_
      exact hQ (((((r_this_bytes p1.toNatClampNeg) - (r_this_bytes p1.toNatClampNeg) / (16 : Int32) * (16 : Int32)) * (256 : Int32)) + (r_this_bytes (p1 + (1 : Int32)).toNatClampNeg)) &&& (16777215 : Int32)) (((((r_this_bytes p1.toNatClampNeg) - (r_this_bytes p1.toNatClampNeg) / (16 : Int32) * (16 : Int32)) * (256 : Int32)) + (r_this_bytes (p1 + (1 : Int32)).toNatClampNeg)) &&& (16777215 : Int32)) _ _ _ _ dX8_effective_79 ⟨hF.symm, rfl⟩ hP hD hS
    · skip
      rw [if_neg c_5] at hF
      rw [if_neg c_5] at hs
      refine lv_iload hx hb dX8_effective_58 (lv_at hl 0 rfl) ?_
      refine lv_aload_n hx hb dX8_effective_60 rfl (lv_at hl 2 rfl) ?_
      refine gf_X8_16 (v := .ref a_this_reg) hx hb hown ht hK hP 0 rfl rfl dX8_effective_61 ?_
      refine lv_iload_n hx hb dX8_effective_64 rfl (lv_at hl 4 rfl) ?_
      have hi_6 := hs
      refine va_iald hx hb hK hP 2 1 rfl rfl hi_6 dX8_effective_65 ?_
      refine lv_iadd hx hb dX8_effective_66 ?_
      refine lv_goto (tgt := 72) hx hb dX8_effective_67 (by decide) ?_
      refine lv_istore (lv' := [(4, .int (((((r_this_bytes p1.toNatClampNeg) - (r_this_bytes p1.toNatClampNeg) / (16 : Int32) * (16 : Int32)) * (256 : Int32)) + (r_this_bytes (p1 + (1 : Int32)).toNatClampNeg)) + (r_this_reg p2.toNatClampNeg))), (3, .int ((r_this_bytes p1.toNatClampNeg) / (16 : Int32))), (0, .ref a_this), (1, .int p1), (2, .int p2)]) hx hb dX8_effective_72 hl (by decide) rfl (fun ls hl => ?_)
      refine lv_iload hx hb dX8_effective_74 (lv_at hl 0 rfl) ?_
      refine lv_ldc (v := 16777215) hx hb hown (ht _ ki_X8_119) dX8_effective_76 ?_
      refine lv_iand hx hb dX8_effective_78 ?_
      exact hQ ((((((r_this_bytes p1.toNatClampNeg) - (r_this_bytes p1.toNatClampNeg) / (16 : Int32) * (16 : Int32)) * (256 : Int32)) + (r_this_bytes (p1 + (1 : Int32)).toNatClampNeg)) + (r_this_reg p2.toNatClampNeg)) &&& (16777215 : Int32)) ((((((r_this_bytes p1.toNatClampNeg) - (r_this_bytes p1.toNatClampNeg) / (16 : Int32) * (16 : Int32)) * (256 : Int32)) + (r_this_bytes (p1 + (1 : Int32)).toNatClampNeg)) + (r_this_reg p2.toNatClampNeg)) &&& (16777215 : Int32)) _ _ _ _ dX8_effective_79 ⟨hF.symm, rfl⟩ hP hD hS
  · skip
    rw [if_neg c_4] at hF
    rw [if_neg c_4] at hs
    refine lv_iload hx hb dX8_effective_38 (lv_at hl 0 rfl) ?_
    refine lv_aload_n hx hb dX8_effective_40 rfl (lv_at hl 2 rfl) ?_
    refine gf_X8_16 (v := .ref a_this_reg) hx hb hown ht hK hP 0 rfl rfl dX8_effective_41 ?_
    refine lv_iload_n hx hb dX8_effective_44 rfl (lv_at hl 1 rfl) ?_
    obtain ⟨hi_7, hs⟩ := hs
    refine va_iald hx hb hK hP 2 1 rfl rfl hi_7 dX8_effective_45 ?_
    refine lv_iadd hx hb dX8_effective_46 ?_
    refine lv_goto (tgt := 52) hx hb dX8_effective_47 (by decide) ?_
    refine lv_istore (lv' := [(4, .int (((((r_this_bytes p1.toNatClampNeg) - (r_this_bytes p1.toNatClampNeg) / (16 : Int32) * (16 : Int32)) * (256 : Int32)) + (r_this_bytes (p1 + (1 : Int32)).toNatClampNeg)) + (r_this_reg ((r_this_bytes p1.toNatClampNeg) / (16 : Int32)).toNatClampNeg))), (3, .int ((r_this_bytes p1.toNatClampNeg) / (16 : Int32))), (0, .ref a_this), (1, .int p1), (2, .int p2)]) hx hb dX8_effective_52 hl (by decide) rfl (fun ls hl => ?_)
    refine lv_iload_n hx hb dX8_effective_54 rfl (lv_at hl 4 rfl) ?_
    refine lv_if_le (tgt := 70) hx hb dX8_effective_55 (by decide) (fun c_8 => ?_) (fun c_8 => ?_)
    · skip
      rw [if_pos c_8] at hF
      rw [if_pos c_8] at hs
      refine lv_iload hx hb dX8_effective_70 (lv_at hl 0 rfl) ?_
      refine lv_istore (lv' := [(4, .int (((((r_this_bytes p1.toNatClampNeg) - (r_this_bytes p1.toNatClampNeg) / (16 : Int32) * (16 : Int32)) * (256 : Int32)) + (r_this_bytes (p1 + (1 : Int32)).toNatClampNeg)) + (r_this_reg ((r_this_bytes p1.toNatClampNeg) / (16 : Int32)).toNatClampNeg))), (3, .int ((r_this_bytes p1.toNatClampNeg) / (16 : Int32))), (0, .ref a_this), (1, .int p1), (2, .int p2)]) hx hb dX8_effective_72 hl (by decide) rfl (fun ls hl => ?_)
      refine lv_iload hx hb dX8_effective_74 (lv_at hl 0 rfl) ?_
      refine lv_ldc (v := 16777215) hx hb hown (ht _ ki_X8_119) dX8_effective_76 ?_
      refine lv_iand hx hb dX8_effective_78 ?_
      exact hQ ((((((r_this_bytes p1.toNatClampNeg) - (r_this_bytes p1.toNatClampNeg) / (16 : Int32) * (16 : Int32)) * (256 : Int32)) + (r_this_bytes (p1 + (1 : Int32)).toNatClampNeg)) + (r_this_reg ((r_this_bytes p1.toNatClampNeg) / (16 : Int32)).toNatClampNeg)) &&& (16777215 : Int32)) ((((((r_this_bytes p1.toNatClampNeg) - (r_this_bytes p1.toNatClampNeg) / (16 : Int32) * (16 : Int32)) * (256 : Int32)) + (r_this_bytes (p1 + (1 : Int32)).toNatClampNeg)) + (r_this_reg ((r_this_bytes p1.toNatClampNeg) / (16 : Int32)).toNatClampNeg)) &&& (16777215 : Int32)) _ _ _ _ dX8_effective_79 ⟨hF.symm, rfl⟩ hP hD hS
    · skip
      rw [if_neg c_8] at hF
      rw [if_neg c_8] at hs
      refine lv_iload hx hb dX8_effective_58 (lv_at hl 0 rfl) ?_
      refine lv_aload_n hx hb dX8_effective_60 rfl (lv_at hl 2 rfl) ?_
      refine gf_X8_16 (v := .ref a_this_reg) hx hb hown ht hK hP 0 rfl rfl dX8_effective_61 ?_
      refine lv_iload_n hx hb dX8_effective_64 rfl (lv_at hl 4 rfl) ?_
      have hi_9 := hs
      refine va_iald hx hb hK hP 2 1 rfl rfl hi_9 dX8_effective_65 ?_
      refine lv_iadd hx hb dX8_effective_66 ?_
      refine lv_goto (tgt := 72) hx hb dX8_effective_67 (by decide) ?_
      refine lv_istore (lv' := [(4, .int ((((((r_this_bytes p1.toNatClampNeg) - (r_this_bytes p1.toNatClampNeg) / (16 : Int32) * (16 : Int32)) * (256 : Int32)) + (r_this_bytes (p1 + (1 : Int32)).toNatClampNeg)) + (r_this_reg ((r_this_bytes p1.toNatClampNeg) / (16 : Int32)).toNatClampNeg)) + (r_this_reg p2.toNatClampNeg))), (3, .int ((r_this_bytes p1.toNatClampNeg) / (16 : Int32))), (0, .ref a_this), (1, .int p1), (2, .int p2)]) hx hb dX8_effective_72 hl (by decide) rfl (fun ls hl => ?_)
      refine lv_iload hx hb dX8_effective_74 (lv_at hl 0 rfl) ?_
      refine lv_ldc (v := 16777215) hx hb hown (ht _ ki_X8_119) dX8_effective_76 ?_
      refine lv_iand hx hb dX8_effective_78 ?_
      exact hQ (((((((r_this_bytes p1.toNatClampNeg) - (r_this_bytes p1.toNatClampNeg) / (16 : Int32) * (16 : Int32)) * (256 : Int32)) + (r_this_bytes (p1 + (1 : Int32)).toNatClampNeg)) + (r_this_reg ((r_this_bytes p1.toNatClampNeg) / (16 : Int32)).toNatClampNeg)) + (r_this_reg p2.toNatClampNeg)) &&& (16777215 : Int32)) (((((((r_this_bytes p1.toNatClampNeg) - (r_this_bytes p1.toNatClampNeg) / (16 : Int32) * (16 : Int32)) * (256 : Int32)) + (r_this_bytes (p1 + (1 : Int32)).toNatClampNeg)) + (r_this_reg ((r_this_bytes p1.toNatClampNeg) / (16 : Int32)).toNatClampNeg)) + (r_this_reg p2.toNatClampNeg)) &&& (16777215 : Int32)) _ _ _ _ dX8_effective_79 ⟨hF.symm, rfl⟩ hP hD hS
theorem cv_X8_effective : qV yX8_effective cX8_effective 5 (some .int) 2 := ⟨kc_X8_effective, kt_X8_effective, ks_X8_effective, kn_X8, by decide, by decide +kernel⟩
def f_X8_sign (o_this : Int32 × Int32 × Int32 × Int32 × Bool × Bool × Int32 × Int32 × Int32 × Int32 × Bool × Bool × Bool × Int32 × Int32 × Int32 × Int32 × Int32 × Int32 × Int32 × Int32 × Int32 × Int32 × Int32 × Int32) (p1 : Int64) : Int32 × Int32 × Int32 × Int32 × Bool × Bool × Int32 × Int32 × Int32 × Int32 × Bool × Bool × Bool × Int32 × Int32 × Int32 × Int32 × Int32 × Int32 × Int32 × Int32 × Int32 × Int32 × Int32 × Int32 := (if (lg_cmp p1 0) = 0 then (o_this.1, o_this.2.1, 0, o_this.2.2.2.1, o_this.2.2.2.2.1, o_this.2.2.2.2.2.1, o_this.2.2.2.2.2.2.1, o_this.2.2.2.2.2.2.2.1, o_this.2.2.2.2.2.2.2.2.1, o_this.2.2.2.2.2.2.2.2.2.1, o_this.2.2.2.2.2.2.2.2.2.2.1, o_this.2.2.2.2.2.2.2.2.2.2.2.1, o_this.2.2.2.2.2.2.2.2.2.2.2.2.1, o_this.2.2.2.2.2.2.2.2.2.2.2.2.2.1, o_this.2.2.2.2.2.2.2.2.2.2.2.2.2.2.1, o_this.2.2.2.2.2.2.2.2.2.2.2.2.2.2.2.1, o_this.2.2.2.2.2.2.2.2.2.2.2.2.2.2.2.2.1, o_this.2.2.2.2.2.2.2.2.2.2.2.2.2.2.2.2.2.1, o_this.2.2.2.2.2.2.2.2.2.2.2.2.2.2.2.2.2.2.1, o_this.2.2.2.2.2.2.2.2.2.2.2.2.2.2.2.2.2.2.2.1, o_this.2.2.2.2.2.2.2.2.2.2.2.2.2.2.2.2.2.2.2.2.1, o_this.2.2.2.2.2.2.2.2.2.2.2.2.2.2.2.2.2.2.2.2.2.1, o_this.2.2.2.2.2.2.2.2.2.2.2.2.2.2.2.2.2.2.2.2.2.2.1, o_this.2.2.2.2.2.2.2.2.2.2.2.2.2.2.2.2.2.2.2.2.2.2.2.1, o_this.2.2.2.2.2.2.2.2.2.2.2.2.2.2.2.2.2.2.2.2.2.2.2.2) else (if 0 ≤ (lg_cmp p1 0) then (o_this.1, o_this.2.1, 2, o_this.2.2.2.1, o_this.2.2.2.2.1, o_this.2.2.2.2.2.1, o_this.2.2.2.2.2.2.1, o_this.2.2.2.2.2.2.2.1, o_this.2.2.2.2.2.2.2.2.1, o_this.2.2.2.2.2.2.2.2.2.1, o_this.2.2.2.2.2.2.2.2.2.2.1, o_this.2.2.2.2.2.2.2.2.2.2.2.1, o_this.2.2.2.2.2.2.2.2.2.2.2.2.1, o_this.2.2.2.2.2.2.2.2.2.2.2.2.2.1, o_this.2.2.2.2.2.2.2.2.2.2.2.2.2.2.1, o_this.2.2.2.2.2.2.2.2.2.2.2.2.2.2.2.1, o_this.2.2.2.2.2.2.2.2.2.2.2.2.2.2.2.2.1, o_this.2.2.2.2.2.2.2.2.2.2.2.2.2.2.2.2.2.1, o_this.2.2.2.2.2.2.2.2.2.2.2.2.2.2.2.2.2.2.1, o_this.2.2.2.2.2.2.2.2.2.2.2.2.2.2.2.2.2.2.2.1, o_this.2.2.2.2.2.2.2.2.2.2.2.2.2.2.2.2.2.2.2.2.1, o_this.2.2.2.2.2.2.2.2.2.2.2.2.2.2.2.2.2.2.2.2.2.1, o_this.2.2.2.2.2.2.2.2.2.2.2.2.2.2.2.2.2.2.2.2.2.2.1, o_this.2.2.2.2.2.2.2.2.2.2.2.2.2.2.2.2.2.2.2.2.2.2.2.1, o_this.2.2.2.2.2.2.2.2.2.2.2.2.2.2.2.2.2.2.2.2.2.2.2.2) else (o_this.1, o_this.2.1, 1, o_this.2.2.2.1, o_this.2.2.2.2.1, o_this.2.2.2.2.2.1, o_this.2.2.2.2.2.2.1, o_this.2.2.2.2.2.2.2.1, o_this.2.2.2.2.2.2.2.2.1, o_this.2.2.2.2.2.2.2.2.2.1, o_this.2.2.2.2.2.2.2.2.2.2.1, o_this.2.2.2.2.2.2.2.2.2.2.2.1, o_this.2.2.2.2.2.2.2.2.2.2.2.2.1, o_this.2.2.2.2.2.2.2.2.2.2.2.2.2.1, o_this.2.2.2.2.2.2.2.2.2.2.2.2.2.2.1, o_this.2.2.2.2.2.2.2.2.2.2.2.2.2.2.2.1, o_this.2.2.2.2.2.2.2.2.2.2.2.2.2.2.2.2.1, o_this.2.2.2.2.2.2.2.2.2.2.2.2.2.2.2.2.2.1, o_this.2.2.2.2.2.2.2.2.2.2.2.2.2.2.2.2.2.2.1, o_this.2.2.2.2.2.2.2.2.2.2.2.2.2.2.2.2.2.2.2.1, o_this.2.2.2.2.2.2.2.2.2.2.2.2.2.2.2.2.2.2.2.2.1, o_this.2.2.2.2.2.2.2.2.2.2.2.2.2.2.2.2.2.2.2.2.2.1, o_this.2.2.2.2.2.2.2.2.2.2.2.2.2.2.2.2.2.2.2.2.2.2.1, o_this.2.2.2.2.2.2.2.2.2.2.2.2.2.2.2.2.2.2.2.2.2.2.2.1, o_this.2.2.2.2.2.2.2.2.2.2.2.2.2.2.2.2.2.2.2.2.2.2.2.2)))
set_option linter.all false in
set_option maxHeartbeats 4000000 in
set_option maxRecDepth 100000 in
theorem c_X8_sign (l : Launch) (D : va_G) (a_this a_this_bytes a_this_keys a_this_reg a_this_card a_this_filled a_this_taken a_this_line a_this_one a_this_two : Nat) (o_this : Int32 × Int32 × Int32 × Int32 × Bool × Bool × Int32 × Int32 × Int32 × Int32 × Bool × Bool × Bool × Int32 × Int32 × Int32 × Int32 × Int32 × Int32 × Int32 × Int32 × Int32 × Int32 × Int32 × Int32) (p1 : Int64) : CtV l yX8_sign cX8_sign 3 none { frames := 0, cells := 0, slots := 0, locals := 0 } D [.ref a_this, .long p1] [(a_this, oX8 a_this_bytes a_this_keys a_this_reg a_this_card a_this_filled a_this_taken a_this_line a_this_one a_this_two o_this)] [] (fun (u : Int32 × Int32 × Int32 × Int32 × Bool × Bool × Int32 × Int32 × Int32 × Int32 × Bool × Bool × Bool × Int32 × Int32 × Int32 × Int32 × Int32 × Int32 × Int32 × Int32 × Int32 × Int32 × Int32 × Int32) => f_X8_sign o_this p1 = u) (fun u => [(a_this, oX8 a_this_bytes a_this_keys a_this_reg a_this_card a_this_filled a_this_taken a_this_line a_this_one a_this_two u)]) := by
  refine CtV.of (by decide) (Nat.le_of_ble_eq_true rfl) ?_
  intro p e s m below meth c A ls Q hE hP hD hS hl hQ
  obtain ⟨hx, hb, hml, hown, ht, hN, hK, hA⟩ := hE
  have hown : s.vm.findClass RX8 = some m.cls := hown
  have hl : lv_has ls 3 [(0, .ref a_this), (1, .long p1)] := hl
  obtain ⟨F, hF⟩ : ∃ F, f_X8_sign o_this p1 = F := ⟨_, rfl⟩
  rw [hF] at hQ
  unfold f_X8_sign at hF
  refine lv_aload_n hx hb dX8_sign_0 rfl (lv_at hl 0 rfl) ?_
  refine lv_lload_n hx hb dX8_sign_1 rfl (lv_at hl 1 rfl) ?_
  refine lv_lconst (v := 0) hx hb dX8_sign_2 (by decide) ?_
  refine W.lcmp hx hb dX8_sign_3 ?_
  refine lv_if_ne (tgt := 11) hx hb dX8_sign_4 (by decide) (fun c_1 => ?_) (fun c_1 => ?_)
  · skip
    rw [if_neg c_1] at hF
    refine lv_lload_n hx hb dX8_sign_11 rfl (lv_at hl 1 rfl) ?_
    refine lv_lconst (v := 0) hx hb dX8_sign_12 (by decide) ?_
    refine W.lcmp hx hb dX8_sign_13 ?_
    refine lv_if_ge (tgt := 21) hx hb dX8_sign_14 (by decide) (fun c_2 => ?_) (fun c_2 => ?_)
    · skip
      rw [if_pos c_2] at hF
      refine lv_iconst (v := 2) hx hb dX8_sign_21 (by decide) ?_
      refine pf_X8_52 (x := 2) hx hb hown ht hK hP hD hS 0 rfl (Nat.le_of_ble_eq_true rfl) dX8_sign_22 (fun H locs hP hD hS => ?_)
      have hP : va_P D vwCl [(a_this, oX8 a_this_bytes a_this_keys a_this_reg a_this_card a_this_filled a_this_taken a_this_line a_this_one a_this_two (o_this.1, o_this.2.1, 2, o_this.2.2.2.1, o_this.2.2.2.2.1, o_this.2.2.2.2.2.1, o_this.2.2.2.2.2.2.1, o_this.2.2.2.2.2.2.2.1, o_this.2.2.2.2.2.2.2.2.1, o_this.2.2.2.2.2.2.2.2.2.1, o_this.2.2.2.2.2.2.2.2.2.2.1, o_this.2.2.2.2.2.2.2.2.2.2.2.1, o_this.2.2.2.2.2.2.2.2.2.2.2.2.1, o_this.2.2.2.2.2.2.2.2.2.2.2.2.2.1, o_this.2.2.2.2.2.2.2.2.2.2.2.2.2.2.1, o_this.2.2.2.2.2.2.2.2.2.2.2.2.2.2.2.1, o_this.2.2.2.2.2.2.2.2.2.2.2.2.2.2.2.2.1, o_this.2.2.2.2.2.2.2.2.2.2.2.2.2.2.2.2.2.1, o_this.2.2.2.2.2.2.2.2.2.2.2.2.2.2.2.2.2.2.1, o_this.2.2.2.2.2.2.2.2.2.2.2.2.2.2.2.2.2.2.2.1, o_this.2.2.2.2.2.2.2.2.2.2.2.2.2.2.2.2.2.2.2.2.1, o_this.2.2.2.2.2.2.2.2.2.2.2.2.2.2.2.2.2.2.2.2.2.1, o_this.2.2.2.2.2.2.2.2.2.2.2.2.2.2.2.2.2.2.2.2.2.2.1, o_this.2.2.2.2.2.2.2.2.2.2.2.2.2.2.2.2.2.2.2.2.2.2.2.1, o_this.2.2.2.2.2.2.2.2.2.2.2.2.2.2.2.2.2.2.2.2.2.2.2.2))] H := hP
      have hD : va_D A [(a_this, oX8 a_this_bytes a_this_keys a_this_reg a_this_card a_this_filled a_this_taken a_this_line a_this_one a_this_two (o_this.1, o_this.2.1, 2, o_this.2.2.2.1, o_this.2.2.2.2.1, o_this.2.2.2.2.2.1, o_this.2.2.2.2.2.2.1, o_this.2.2.2.2.2.2.2.1, o_this.2.2.2.2.2.2.2.2.1, o_this.2.2.2.2.2.2.2.2.2.1, o_this.2.2.2.2.2.2.2.2.2.2.1, o_this.2.2.2.2.2.2.2.2.2.2.2.1, o_this.2.2.2.2.2.2.2.2.2.2.2.2.1, o_this.2.2.2.2.2.2.2.2.2.2.2.2.2.1, o_this.2.2.2.2.2.2.2.2.2.2.2.2.2.2.1, o_this.2.2.2.2.2.2.2.2.2.2.2.2.2.2.2.1, o_this.2.2.2.2.2.2.2.2.2.2.2.2.2.2.2.2.1, o_this.2.2.2.2.2.2.2.2.2.2.2.2.2.2.2.2.2.1, o_this.2.2.2.2.2.2.2.2.2.2.2.2.2.2.2.2.2.2.1, o_this.2.2.2.2.2.2.2.2.2.2.2.2.2.2.2.2.2.2.2.1, o_this.2.2.2.2.2.2.2.2.2.2.2.2.2.2.2.2.2.2.2.2.1, o_this.2.2.2.2.2.2.2.2.2.2.2.2.2.2.2.2.2.2.2.2.2.1, o_this.2.2.2.2.2.2.2.2.2.2.2.2.2.2.2.2.2.2.2.2.2.2.1, o_this.2.2.2.2.2.2.2.2.2.2.2.2.2.2.2.2.2.2.2.2.2.2.2.1, o_this.2.2.2.2.2.2.2.2.2.2.2.2.2.2.2.2.2.2.2.2.2.2.2.2))] := hD
      exact hQ (o_this.1, o_this.2.1, 2, o_this.2.2.2.1, o_this.2.2.2.2.1, o_this.2.2.2.2.2.1, o_this.2.2.2.2.2.2.1, o_this.2.2.2.2.2.2.2.1, o_this.2.2.2.2.2.2.2.2.1, o_this.2.2.2.2.2.2.2.2.2.1, o_this.2.2.2.2.2.2.2.2.2.2.1, o_this.2.2.2.2.2.2.2.2.2.2.2.1, o_this.2.2.2.2.2.2.2.2.2.2.2.2.1, o_this.2.2.2.2.2.2.2.2.2.2.2.2.2.1, o_this.2.2.2.2.2.2.2.2.2.2.2.2.2.2.1, o_this.2.2.2.2.2.2.2.2.2.2.2.2.2.2.2.1, o_this.2.2.2.2.2.2.2.2.2.2.2.2.2.2.2.2.1, o_this.2.2.2.2.2.2.2.2.2.2.2.2.2.2.2.2.2.1, o_this.2.2.2.2.2.2.2.2.2.2.2.2.2.2.2.2.2.2.1, o_this.2.2.2.2.2.2.2.2.2.2.2.2.2.2.2.2.2.2.2.1, o_this.2.2.2.2.2.2.2.2.2.2.2.2.2.2.2.2.2.2.2.2.1, o_this.2.2.2.2.2.2.2.2.2.2.2.2.2.2.2.2.2.2.2.2.2.1, o_this.2.2.2.2.2.2.2.2.2.2.2.2.2.2.2.2.2.2.2.2.2.2.1, o_this.2.2.2.2.2.2.2.2.2.2.2.2.2.2.2.2.2.2.2.2.2.2.2.1, o_this.2.2.2.2.2.2.2.2.2.2.2.2.2.2.2.2.2.2.2.2.2.2.2.2) _ _ _ _ dX8_sign_25 hF.symm hP hD hS
    · skip
      rw [if_neg c_2] at hF
      refine lv_iconst (v := 1) hx hb dX8_sign_17 (by decide) ?_
      refine lv_goto (tgt := 22) hx hb dX8_sign_18 (by decide) ?_
      refine pf_X8_52 (x := 1) hx hb hown ht hK hP hD hS 0 rfl (Nat.le_of_ble_eq_true rfl) dX8_sign_22 (fun H locs hP hD hS => ?_)
      have hP : va_P D vwCl [(a_this, oX8 a_this_bytes a_this_keys a_this_reg a_this_card a_this_filled a_this_taken a_this_line a_this_one a_this_two (o_this.1, o_this.2.1, 1, o_this.2.2.2.1, o_this.2.2.2.2.1, o_this.2.2.2.2.2.1, o_this.2.2.2.2.2.2.1, o_this.2.2.2.2.2.2.2.1, o_this.2.2.2.2.2.2.2.2.1, o_this.2.2.2.2.2.2.2.2.2.1, o_this.2.2.2.2.2.2.2.2.2.2.1, o_this.2.2.2.2.2.2.2.2.2.2.2.1, o_this.2.2.2.2.2.2.2.2.2.2.2.2.1, o_this.2.2.2.2.2.2.2.2.2.2.2.2.2.1, o_this.2.2.2.2.2.2.2.2.2.2.2.2.2.2.1, o_this.2.2.2.2.2.2.2.2.2.2.2.2.2.2.2.1, o_this.2.2.2.2.2.2.2.2.2.2.2.2.2.2.2.2.1, o_this.2.2.2.2.2.2.2.2.2.2.2.2.2.2.2.2.2.1, o_this.2.2.2.2.2.2.2.2.2.2.2.2.2.2.2.2.2.2.1, o_this.2.2.2.2.2.2.2.2.2.2.2.2.2.2.2.2.2.2.2.1, o_this.2.2.2.2.2.2.2.2.2.2.2.2.2.2.2.2.2.2.2.2.1, o_this.2.2.2.2.2.2.2.2.2.2.2.2.2.2.2.2.2.2.2.2.2.1, o_this.2.2.2.2.2.2.2.2.2.2.2.2.2.2.2.2.2.2.2.2.2.2.1, o_this.2.2.2.2.2.2.2.2.2.2.2.2.2.2.2.2.2.2.2.2.2.2.2.1, o_this.2.2.2.2.2.2.2.2.2.2.2.2.2.2.2.2.2.2.2.2.2.2.2.2))] H := hP
      have hD : va_D A [(a_this, oX8 a_this_bytes a_this_keys a_this_reg a_this_card a_this_filled a_this_taken a_this_line a_this_one a_this_two (o_this.1, o_this.2.1, 1, o_this.2.2.2.1, o_this.2.2.2.2.1, o_this.2.2.2.2.2.1, o_this.2.2.2.2.2.2.1, o_this.2.2.2.2.2.2.2.1, o_this.2.2.2.2.2.2.2.2.1, o_this.2.2.2.2.2.2.2.2.2.1, o_this.2.2.2.2.2.2.2.2.2.2.1, o_this.2.2.2.2.2.2.2.2.2.2.2.1, o_this.2.2.2.2.2.2.2.2.2.2.2.2.1, o_this.2.2.2.2.2.2.2.2.2.2.2.2.2.1, o_this.2.2.2.2.2.2.2.2.2.2.2.2.2.2.1, o_this.2.2.2.2.2.2.2.2.2.2.2.2.2.2.2.1, o_this.2.2.2.2.2.2.2.2.2.2.2.2.2.2.2.2.1, o_this.2.2.2.2.2.2.2.2.2.2.2.2.2.2.2.2.2.1, o_this.2.2.2.2.2.2.2.2.2.2.2.2.2.2.2.2.2.2.1, o_this.2.2.2.2.2.2.2.2.2.2.2.2.2.2.2.2.2.2.2.1, o_this.2.2.2.2.2.2.2.2.2.2.2.2.2.2.2.2.2.2.2.2.1, o_this.2.2.2.2.2.2.2.2.2.2.2.2.2.2.2.2.2.2.2.2.2.1, o_this.2.2.2.2.2.2.2.2.2.2.2.2.2.2.2.2.2.2.2.2.2.2.1, o_this.2.2.2.2.2.2.2.2.2.2.2.2.2.2.2.2.2.2.2.2.2.2.2.1, o_this.2.2.2.2.2.2.2.2.2.2.2.2.2.2.2.2.2.2.2.2.2.2.2.2))] := hD
      exact hQ (o_this.1, o_this.2.1, 1, o_this.2.2.2.1, o_this.2.2.2.2.1, o_this.2.2.2.2.2.1, o_this.2.2.2.2.2.2.1, o_this.2.2.2.2.2.2.2.1, o_this.2.2.2.2.2.2.2.2.1, o_this.2.2.2.2.2.2.2.2.2.1, o_this.2.2.2.2.2.2.2.2.2.2.1, o_this.2.2.2.2.2.2.2.2.2.2.2.1, o_this.2.2.2.2.2.2.2.2.2.2.2.2.1, o_this.2.2.2.2.2.2.2.2.2.2.2.2.2.1, o_this.2.2.2.2.2.2.2.2.2.2.2.2.2.2.1, o_this.2.2.2.2.2.2.2.2.2.2.2.2.2.2.2.1, o_this.2.2.2.2.2.2.2.2.2.2.2.2.2.2.2.2.1, o_this.2.2.2.2.2.2.2.2.2.2.2.2.2.2.2.2.2.1, o_this.2.2.2.2.2.2.2.2.2.2.2.2.2.2.2.2.2.2.1, o_this.2.2.2.2.2.2.2.2.2.2.2.2.2.2.2.2.2.2.2.1, o_this.2.2.2.2.2.2.2.2.2.2.2.2.2.2.2.2.2.2.2.2.1, o_this.2.2.2.2.2.2.2.2.2.2.2.2.2.2.2.2.2.2.2.2.2.1, o_this.2.2.2.2.2.2.2.2.2.2.2.2.2.2.2.2.2.2.2.2.2.2.1, o_this.2.2.2.2.2.2.2.2.2.2.2.2.2.2.2.2.2.2.2.2.2.2.2.1, o_this.2.2.2.2.2.2.2.2.2.2.2.2.2.2.2.2.2.2.2.2.2.2.2.2) _ _ _ _ dX8_sign_25 hF.symm hP hD hS
  · skip
    rw [if_pos c_1] at hF
    refine lv_iconst (v := 0) hx hb dX8_sign_7 (by decide) ?_
    refine lv_goto (tgt := 22) hx hb dX8_sign_8 (by decide) ?_
    refine pf_X8_52 (x := 0) hx hb hown ht hK hP hD hS 0 rfl (Nat.le_of_ble_eq_true rfl) dX8_sign_22 (fun H locs hP hD hS => ?_)
    have hP : va_P D vwCl [(a_this, oX8 a_this_bytes a_this_keys a_this_reg a_this_card a_this_filled a_this_taken a_this_line a_this_one a_this_two (o_this.1, o_this.2.1, 0, o_this.2.2.2.1, o_this.2.2.2.2.1, o_this.2.2.2.2.2.1, o_this.2.2.2.2.2.2.1, o_this.2.2.2.2.2.2.2.1, o_this.2.2.2.2.2.2.2.2.1, o_this.2.2.2.2.2.2.2.2.2.1, o_this.2.2.2.2.2.2.2.2.2.2.1, o_this.2.2.2.2.2.2.2.2.2.2.2.1, o_this.2.2.2.2.2.2.2.2.2.2.2.2.1, o_this.2.2.2.2.2.2.2.2.2.2.2.2.2.1, o_this.2.2.2.2.2.2.2.2.2.2.2.2.2.2.1, o_this.2.2.2.2.2.2.2.2.2.2.2.2.2.2.2.1, o_this.2.2.2.2.2.2.2.2.2.2.2.2.2.2.2.2.1, o_this.2.2.2.2.2.2.2.2.2.2.2.2.2.2.2.2.2.1, o_this.2.2.2.2.2.2.2.2.2.2.2.2.2.2.2.2.2.2.1, o_this.2.2.2.2.2.2.2.2.2.2.2.2.2.2.2.2.2.2.2.1, o_this.2.2.2.2.2.2.2.2.2.2.2.2.2.2.2.2.2.2.2.2.1, o_this.2.2.2.2.2.2.2.2.2.2.2.2.2.2.2.2.2.2.2.2.2.1, o_this.2.2.2.2.2.2.2.2.2.2.2.2.2.2.2.2.2.2.2.2.2.2.1, o_this.2.2.2.2.2.2.2.2.2.2.2.2.2.2.2.2.2.2.2.2.2.2.2.1, o_this.2.2.2.2.2.2.2.2.2.2.2.2.2.2.2.2.2.2.2.2.2.2.2.2))] H := hP
    have hD : va_D A [(a_this, oX8 a_this_bytes a_this_keys a_this_reg a_this_card a_this_filled a_this_taken a_this_line a_this_one a_this_two (o_this.1, o_this.2.1, 0, o_this.2.2.2.1, o_this.2.2.2.2.1, o_this.2.2.2.2.2.1, o_this.2.2.2.2.2.2.1, o_this.2.2.2.2.2.2.2.1, o_this.2.2.2.2.2.2.2.2.1, o_this.2.2.2.2.2.2.2.2.2.1, o_this.2.2.2.2.2.2.2.2.2.2.1, o_this.2.2.2.2.2.2.2.2.2.2.2.1, o_this.2.2.2.2.2.2.2.2.2.2.2.2.1, o_this.2.2.2.2.2.2.2.2.2.2.2.2.2.1, o_this.2.2.2.2.2.2.2.2.2.2.2.2.2.2.1, o_this.2.2.2.2.2.2.2.2.2.2.2.2.2.2.2.1, o_this.2.2.2.2.2.2.2.2.2.2.2.2.2.2.2.2.1, o_this.2.2.2.2.2.2.2.2.2.2.2.2.2.2.2.2.2.1, o_this.2.2.2.2.2.2.2.2.2.2.2.2.2.2.2.2.2.2.1, o_this.2.2.2.2.2.2.2.2.2.2.2.2.2.2.2.2.2.2.2.1, o_this.2.2.2.2.2.2.2.2.2.2.2.2.2.2.2.2.2.2.2.2.1, o_this.2.2.2.2.2.2.2.2.2.2.2.2.2.2.2.2.2.2.2.2.2.1, o_this.2.2.2.2.2.2.2.2.2.2.2.2.2.2.2.2.2.2.2.2.2.2.1, o_this.2.2.2.2.2.2.2.2.2.2.2.2.2.2.2.2.2.2.2.2.2.2.2.1, o_this.2.2.2.2.2.2.2.2.2.2.2.2.2.2.2.2.2.2.2.2.2.2.2.2))] := hD
    exact hQ (o_this.1, o_this.2.1, 0, o_this.2.2.2.1, o_this.2.2.2.2.1, o_this.2.2.2.2.2.1, o_this.2.2.2.2.2.2.1, o_this.2.2.2.2.2.2.2.1, o_this.2.2.2.2.2.2.2.2.1, o_this.2.2.2.2.2.2.2.2.2.1, o_this.2.2.2.2.2.2.2.2.2.2.1, o_this.2.2.2.2.2.2.2.2.2.2.2.1, o_this.2.2.2.2.2.2.2.2.2.2.2.2.1, o_this.2.2.2.2.2.2.2.2.2.2.2.2.2.1, o_this.2.2.2.2.2.2.2.2.2.2.2.2.2.2.1, o_this.2.2.2.2.2.2.2.2.2.2.2.2.2.2.2.1, o_this.2.2.2.2.2.2.2.2.2.2.2.2.2.2.2.2.1, o_this.2.2.2.2.2.2.2.2.2.2.2.2.2.2.2.2.2.1, o_this.2.2.2.2.2.2.2.2.2.2.2.2.2.2.2.2.2.2.1, o_this.2.2.2.2.2.2.2.2.2.2.2.2.2.2.2.2.2.2.2.1, o_this.2.2.2.2.2.2.2.2.2.2.2.2.2.2.2.2.2.2.2.2.1, o_this.2.2.2.2.2.2.2.2.2.2.2.2.2.2.2.2.2.2.2.2.2.1, o_this.2.2.2.2.2.2.2.2.2.2.2.2.2.2.2.2.2.2.2.2.2.2.1, o_this.2.2.2.2.2.2.2.2.2.2.2.2.2.2.2.2.2.2.2.2.2.2.2.1, o_this.2.2.2.2.2.2.2.2.2.2.2.2.2.2.2.2.2.2.2.2.2.2.2.2) _ _ _ _ dX8_sign_25 hF.symm hP hD hS
theorem cv_X8_sign : qV yX8_sign cX8_sign 3 none 1 := ⟨kc_X8_sign, kt_X8_sign, ks_X8_sign, kn_X8, by decide, by decide +kernel⟩
def f_X8_summed (o_this : Int32 × Int32 × Int32 × Int32 × Bool × Bool × Int32 × Int32 × Int32 × Int32 × Bool × Bool × Bool × Int32 × Int32 × Int32 × Int32 × Int32 × Int32 × Int32 × Int32 × Int32 × Int32 × Int32 × Int32) (p1 : Int64) : Int32 × (Int32 × Int32 × Int32 × Int32 × Bool × Bool × Int32 × Int32 × Int32 × Int32 × Bool × Bool × Bool × Int32 × Int32 × Int32 × Int32 × Int32 × Int32 × Int32 × Int32 × Int32 × Int32 × Int32 × Int32) := (q_let (f_X8_sign o_this p1.toInt32.toInt64) fun w_1 => (if (lg_cmp p1.toInt32.toInt64 p1) = 0 then (p1.toInt32, w_1) else (if ((w_1.1 / (8 : Int32)) - (w_1.1 / (8 : Int32)) / (2 : Int32) * (2 : Int32)) = (1 : Int32) then (p1.toInt32, (w_1.1, w_1.2.1, 3, w_1.2.2.2.1, w_1.2.2.2.2.1, w_1.2.2.2.2.2.1, w_1.2.2.2.2.2.2.1, w_1.2.2.2.2.2.2.2.1, w_1.2.2.2.2.2.2.2.2.1, 8, w_1.2.2.2.2.2.2.2.2.2.2.1, w_1.2.2.2.2.2.2.2.2.2.2.2.1, w_1.2.2.2.2.2.2.2.2.2.2.2.2.1, w_1.2.2.2.2.2.2.2.2.2.2.2.2.2.1, w_1.2.2.2.2.2.2.2.2.2.2.2.2.2.2.1, w_1.2.2.2.2.2.2.2.2.2.2.2.2.2.2.2.1, w_1.2.2.2.2.2.2.2.2.2.2.2.2.2.2.2.2.1, w_1.2.2.2.2.2.2.2.2.2.2.2.2.2.2.2.2.2.1, w_1.2.2.2.2.2.2.2.2.2.2.2.2.2.2.2.2.2.2.1, w_1.2.2.2.2.2.2.2.2.2.2.2.2.2.2.2.2.2.2.2.1, w_1.2.2.2.2.2.2.2.2.2.2.2.2.2.2.2.2.2.2.2.2.1, w_1.2.2.2.2.2.2.2.2.2.2.2.2.2.2.2.2.2.2.2.2.2.1, w_1.2.2.2.2.2.2.2.2.2.2.2.2.2.2.2.2.2.2.2.2.2.2.1, w_1.2.2.2.2.2.2.2.2.2.2.2.2.2.2.2.2.2.2.2.2.2.2.2.1, w_1.2.2.2.2.2.2.2.2.2.2.2.2.2.2.2.2.2.2.2.2.2.2.2.2)) else (p1.toInt32, (w_1.1, w_1.2.1, 3, w_1.2.2.2.1, w_1.2.2.2.2.1, w_1.2.2.2.2.2.1, w_1.2.2.2.2.2.2.1, w_1.2.2.2.2.2.2.2.1, w_1.2.2.2.2.2.2.2.2.1, 0, w_1.2.2.2.2.2.2.2.2.2.2.1, w_1.2.2.2.2.2.2.2.2.2.2.2.1, w_1.2.2.2.2.2.2.2.2.2.2.2.2.1, w_1.2.2.2.2.2.2.2.2.2.2.2.2.2.1, w_1.2.2.2.2.2.2.2.2.2.2.2.2.2.2.1, w_1.2.2.2.2.2.2.2.2.2.2.2.2.2.2.2.1, w_1.2.2.2.2.2.2.2.2.2.2.2.2.2.2.2.2.1, w_1.2.2.2.2.2.2.2.2.2.2.2.2.2.2.2.2.2.1, w_1.2.2.2.2.2.2.2.2.2.2.2.2.2.2.2.2.2.2.1, w_1.2.2.2.2.2.2.2.2.2.2.2.2.2.2.2.2.2.2.2.1, w_1.2.2.2.2.2.2.2.2.2.2.2.2.2.2.2.2.2.2.2.2.1, w_1.2.2.2.2.2.2.2.2.2.2.2.2.2.2.2.2.2.2.2.2.2.1, w_1.2.2.2.2.2.2.2.2.2.2.2.2.2.2.2.2.2.2.2.2.2.2.1, w_1.2.2.2.2.2.2.2.2.2.2.2.2.2.2.2.2.2.2.2.2.2.2.2.1, w_1.2.2.2.2.2.2.2.2.2.2.2.2.2.2.2.2.2.2.2.2.2.2.2.2)))))
set_option linter.all false in
set_option maxHeartbeats 4000000 in
set_option maxRecDepth 100000 in
theorem c_X8_summed (l : Launch) (D : va_G) (a_this a_this_bytes a_this_keys a_this_reg a_this_card a_this_filled a_this_taken a_this_line a_this_one a_this_two : Nat) (o_this : Int32 × Int32 × Int32 × Int32 × Bool × Bool × Int32 × Int32 × Int32 × Int32 × Bool × Bool × Bool × Int32 × Int32 × Int32 × Int32 × Int32 × Int32 × Int32 × Int32 × Int32 × Int32 × Int32 × Int32) (p1 : Int64) : CtI l yX8_summed cX8_summed 4 (some .int) { frames := 1, cells := 0, slots := 0, locals := 22 } D [.ref a_this, .long p1] [(a_this, oX8 a_this_bytes a_this_keys a_this_reg a_this_card a_this_filled a_this_taken a_this_line a_this_one a_this_two o_this)] [] (fun (r : Int32) (u : Int32 × (Int32 × Int32 × Int32 × Int32 × Bool × Bool × Int32 × Int32 × Int32 × Int32 × Bool × Bool × Bool × Int32 × Int32 × Int32 × Int32 × Int32 × Int32 × Int32 × Int32 × Int32 × Int32 × Int32 × Int32)) => f_X8_summed o_this p1 = u ∧ r = u.1) (fun u => [(a_this, oX8 a_this_bytes a_this_keys a_this_reg a_this_card a_this_filled a_this_taken a_this_line a_this_one a_this_two u.2)]) := by
  refine CtI.of (by decide) (Nat.le_of_ble_eq_true rfl) ?_
  intro p e s m below meth c A ls Q hE hP hD hS hl hQ
  obtain ⟨hx, hb, hml, hown, ht, hN, hK, hA⟩ := hE
  have hown : s.vm.findClass RX8 = some m.cls := hown
  have hl : lv_has ls 4 [(0, .ref a_this), (1, .long p1)] := hl
  obtain ⟨F, hF⟩ : ∃ F, f_X8_summed o_this p1 = F := ⟨_, rfl⟩
  rw [hF] at hQ
  unfold f_X8_summed at hF
  refine lv_lload_n hx hb dX8_summed_0 rfl (lv_at hl 1 rfl) ?_
  refine lv_l2i hx hb dX8_summed_1 rfl ?_
  refine lv_istore_n (lv' := [(3, .int p1.toInt32), (0, .ref a_this), (1, .long p1)]) hx hb dX8_summed_2 rfl hl (by decide) rfl (fun ls hl => ?_)
  refine lv_aload_n hx hb dX8_summed_3 rfl (lv_at hl 1 rfl) ?_
  refine lv_iload_n hx hb dX8_summed_4 rfl (lv_at hl 0 rfl) ?_
  refine lv_i2l hx hb dX8_summed_5 rfl ?_
  refine q_Vv (rest := []) (c_X8_sign l D a_this a_this_bytes a_this_keys a_this_reg a_this_card a_this_filled a_this_taken a_this_line a_this_one a_this_two o_this p1.toInt32.toInt64) cv_X8_sign hx hb hml hown ht hN hK hA hP hD hS hl.1 (km_X8_120) ⟨Nat.le_of_ble_eq_true rfl, Nat.le_of_ble_eq_true rfl⟩ rfl rfl [0] (by decide) rfl [] rfl (fun _ => rfl) (ci := 8) rfl rfl rfl rfl rfl (Nat.le_of_ble_eq_true rfl) dX8_summed_6 ⟨Nat.zero_le _, Nat.zero_le _⟩ (fun w_1 H locs hw hP hD hS => ?_)
  have hP : va_P D vwCl [(a_this, oX8 a_this_bytes a_this_keys a_this_reg a_this_card a_this_filled a_this_taken a_this_line a_this_one a_this_two w_1)] H := hP
  have hD : va_D A [(a_this, oX8 a_this_bytes a_this_keys a_this_reg a_this_card a_this_filled a_this_taken a_this_line a_this_one a_this_two w_1)] := hD
  rw [q_let_of hw] at hF
  refine lv_iload_n hx hb dX8_summed_9 rfl (lv_at hl 0 rfl) ?_
  refine lv_i2l hx hb dX8_summed_10 rfl ?_
  refine lv_lload_n hx hb dX8_summed_11 rfl (lv_at hl 2 rfl) ?_
  refine W.lcmp hx hb dX8_summed_12 ?_
  refine lv_if_eq (tgt := 44) hx hb dX8_summed_13 (by decide) (fun c_2 => ?_) (fun c_2 => ?_)
  · skip
    rw [if_pos c_2] at hF
    refine lv_iload_n hx hb dX8_summed_44 rfl (lv_at hl 0 rfl) ?_
    exact hQ p1.toInt32 (p1.toInt32, w_1) _ _ _ _ dX8_summed_45 ⟨hF.symm, rfl⟩ hP hD hS
  · skip
    rw [if_neg c_2] at hF
    refine lv_aload_n hx hb dX8_summed_16 rfl (lv_at hl 1 rfl) ?_
    refine lv_iconst (v := 3) hx hb dX8_summed_17 (by decide) ?_
    refine pf_X8_52 (x := 3) hx hb hown ht hK hP hD hS 0 rfl (Nat.le_of_ble_eq_true rfl) dX8_summed_18 (fun H locs hP hD hS => ?_)
    have hP : va_P D vwCl [(a_this, oX8 a_this_bytes a_this_keys a_this_reg a_this_card a_this_filled a_this_taken a_this_line a_this_one a_this_two (w_1.1, w_1.2.1, 3, w_1.2.2.2.1, w_1.2.2.2.2.1, w_1.2.2.2.2.2.1, w_1.2.2.2.2.2.2.1, w_1.2.2.2.2.2.2.2.1, w_1.2.2.2.2.2.2.2.2.1, w_1.2.2.2.2.2.2.2.2.2.1, w_1.2.2.2.2.2.2.2.2.2.2.1, w_1.2.2.2.2.2.2.2.2.2.2.2.1, w_1.2.2.2.2.2.2.2.2.2.2.2.2.1, w_1.2.2.2.2.2.2.2.2.2.2.2.2.2.1, w_1.2.2.2.2.2.2.2.2.2.2.2.2.2.2.1, w_1.2.2.2.2.2.2.2.2.2.2.2.2.2.2.2.1, w_1.2.2.2.2.2.2.2.2.2.2.2.2.2.2.2.2.1, w_1.2.2.2.2.2.2.2.2.2.2.2.2.2.2.2.2.2.1, w_1.2.2.2.2.2.2.2.2.2.2.2.2.2.2.2.2.2.2.1, w_1.2.2.2.2.2.2.2.2.2.2.2.2.2.2.2.2.2.2.2.1, w_1.2.2.2.2.2.2.2.2.2.2.2.2.2.2.2.2.2.2.2.2.1, w_1.2.2.2.2.2.2.2.2.2.2.2.2.2.2.2.2.2.2.2.2.2.1, w_1.2.2.2.2.2.2.2.2.2.2.2.2.2.2.2.2.2.2.2.2.2.2.1, w_1.2.2.2.2.2.2.2.2.2.2.2.2.2.2.2.2.2.2.2.2.2.2.2.1, w_1.2.2.2.2.2.2.2.2.2.2.2.2.2.2.2.2.2.2.2.2.2.2.2.2))] H := hP
    have hD : va_D A [(a_this, oX8 a_this_bytes a_this_keys a_this_reg a_this_card a_this_filled a_this_taken a_this_line a_this_one a_this_two (w_1.1, w_1.2.1, 3, w_1.2.2.2.1, w_1.2.2.2.2.1, w_1.2.2.2.2.2.1, w_1.2.2.2.2.2.2.1, w_1.2.2.2.2.2.2.2.1, w_1.2.2.2.2.2.2.2.2.1, w_1.2.2.2.2.2.2.2.2.2.1, w_1.2.2.2.2.2.2.2.2.2.2.1, w_1.2.2.2.2.2.2.2.2.2.2.2.1, w_1.2.2.2.2.2.2.2.2.2.2.2.2.1, w_1.2.2.2.2.2.2.2.2.2.2.2.2.2.1, w_1.2.2.2.2.2.2.2.2.2.2.2.2.2.2.1, w_1.2.2.2.2.2.2.2.2.2.2.2.2.2.2.2.1, w_1.2.2.2.2.2.2.2.2.2.2.2.2.2.2.2.2.1, w_1.2.2.2.2.2.2.2.2.2.2.2.2.2.2.2.2.2.1, w_1.2.2.2.2.2.2.2.2.2.2.2.2.2.2.2.2.2.2.1, w_1.2.2.2.2.2.2.2.2.2.2.2.2.2.2.2.2.2.2.2.1, w_1.2.2.2.2.2.2.2.2.2.2.2.2.2.2.2.2.2.2.2.2.1, w_1.2.2.2.2.2.2.2.2.2.2.2.2.2.2.2.2.2.2.2.2.2.1, w_1.2.2.2.2.2.2.2.2.2.2.2.2.2.2.2.2.2.2.2.2.2.2.1, w_1.2.2.2.2.2.2.2.2.2.2.2.2.2.2.2.2.2.2.2.2.2.2.2.1, w_1.2.2.2.2.2.2.2.2.2.2.2.2.2.2.2.2.2.2.2.2.2.2.2.2))] := hD
    refine lv_aload_n hx hb dX8_summed_21 rfl (lv_at hl 1 rfl) ?_
    refine lv_aload_n hx hb dX8_summed_22 rfl (lv_at hl 1 rfl) ?_
    refine gf_X8_49 (v := .int w_1.1) hx hb hown ht hK hP 0 rfl rfl dX8_summed_23 ?_
    refine lv_bipush (v := 8) hx hb dX8_summed_26 (by decide) ?_
    refine lv_idiv hx hb dX8_summed_28 (by decide) ?_
    refine lv_iconst (v := 2) hx hb dX8_summed_29 (by decide) ?_
    refine lv_irem hx hb dX8_summed_30 (by decide) ?_
    refine lv_iconst (v := 1) hx hb dX8_summed_31 (by decide) ?_
    refine lv_icmp_ne (tgt := 40) hx hb dX8_summed_32 (by decide) (fun c_3 => ?_) (fun c_3 => ?_)
    · skip
      rw [if_neg c_3] at hF
      refine lv_iconst (v := 0) hx hb dX8_summed_40 (by decide) ?_
      refine pf_X8_86 (x := 0) hx hb hown ht hK hP hD hS 0 rfl (Nat.le_of_ble_eq_true rfl) dX8_summed_41 (fun H locs hP hD hS => ?_)
      have hP : va_P D vwCl [(a_this, oX8 a_this_bytes a_this_keys a_this_reg a_this_card a_this_filled a_this_taken a_this_line a_this_one a_this_two (w_1.1, w_1.2.1, 3, w_1.2.2.2.1, w_1.2.2.2.2.1, w_1.2.2.2.2.2.1, w_1.2.2.2.2.2.2.1, w_1.2.2.2.2.2.2.2.1, w_1.2.2.2.2.2.2.2.2.1, 0, w_1.2.2.2.2.2.2.2.2.2.2.1, w_1.2.2.2.2.2.2.2.2.2.2.2.1, w_1.2.2.2.2.2.2.2.2.2.2.2.2.1, w_1.2.2.2.2.2.2.2.2.2.2.2.2.2.1, w_1.2.2.2.2.2.2.2.2.2.2.2.2.2.2.1, w_1.2.2.2.2.2.2.2.2.2.2.2.2.2.2.2.1, w_1.2.2.2.2.2.2.2.2.2.2.2.2.2.2.2.2.1, w_1.2.2.2.2.2.2.2.2.2.2.2.2.2.2.2.2.2.1, w_1.2.2.2.2.2.2.2.2.2.2.2.2.2.2.2.2.2.2.1, w_1.2.2.2.2.2.2.2.2.2.2.2.2.2.2.2.2.2.2.2.1, w_1.2.2.2.2.2.2.2.2.2.2.2.2.2.2.2.2.2.2.2.2.1, w_1.2.2.2.2.2.2.2.2.2.2.2.2.2.2.2.2.2.2.2.2.2.1, w_1.2.2.2.2.2.2.2.2.2.2.2.2.2.2.2.2.2.2.2.2.2.2.1, w_1.2.2.2.2.2.2.2.2.2.2.2.2.2.2.2.2.2.2.2.2.2.2.2.1, w_1.2.2.2.2.2.2.2.2.2.2.2.2.2.2.2.2.2.2.2.2.2.2.2.2))] H := hP
      have hD : va_D A [(a_this, oX8 a_this_bytes a_this_keys a_this_reg a_this_card a_this_filled a_this_taken a_this_line a_this_one a_this_two (w_1.1, w_1.2.1, 3, w_1.2.2.2.1, w_1.2.2.2.2.1, w_1.2.2.2.2.2.1, w_1.2.2.2.2.2.2.1, w_1.2.2.2.2.2.2.2.1, w_1.2.2.2.2.2.2.2.2.1, 0, w_1.2.2.2.2.2.2.2.2.2.2.1, w_1.2.2.2.2.2.2.2.2.2.2.2.1, w_1.2.2.2.2.2.2.2.2.2.2.2.2.1, w_1.2.2.2.2.2.2.2.2.2.2.2.2.2.1, w_1.2.2.2.2.2.2.2.2.2.2.2.2.2.2.1, w_1.2.2.2.2.2.2.2.2.2.2.2.2.2.2.2.1, w_1.2.2.2.2.2.2.2.2.2.2.2.2.2.2.2.2.1, w_1.2.2.2.2.2.2.2.2.2.2.2.2.2.2.2.2.2.1, w_1.2.2.2.2.2.2.2.2.2.2.2.2.2.2.2.2.2.2.1, w_1.2.2.2.2.2.2.2.2.2.2.2.2.2.2.2.2.2.2.2.1, w_1.2.2.2.2.2.2.2.2.2.2.2.2.2.2.2.2.2.2.2.2.1, w_1.2.2.2.2.2.2.2.2.2.2.2.2.2.2.2.2.2.2.2.2.2.1, w_1.2.2.2.2.2.2.2.2.2.2.2.2.2.2.2.2.2.2.2.2.2.2.1, w_1.2.2.2.2.2.2.2.2.2.2.2.2.2.2.2.2.2.2.2.2.2.2.2.1, w_1.2.2.2.2.2.2.2.2.2.2.2.2.2.2.2.2.2.2.2.2.2.2.2.2))] := hD
      refine lv_iload_n hx hb dX8_summed_44 rfl (lv_at hl 0 rfl) ?_
      exact hQ p1.toInt32 (p1.toInt32, (w_1.1, w_1.2.1, 3, w_1.2.2.2.1, w_1.2.2.2.2.1, w_1.2.2.2.2.2.1, w_1.2.2.2.2.2.2.1, w_1.2.2.2.2.2.2.2.1, w_1.2.2.2.2.2.2.2.2.1, 0, w_1.2.2.2.2.2.2.2.2.2.2.1, w_1.2.2.2.2.2.2.2.2.2.2.2.1, w_1.2.2.2.2.2.2.2.2.2.2.2.2.1, w_1.2.2.2.2.2.2.2.2.2.2.2.2.2.1, w_1.2.2.2.2.2.2.2.2.2.2.2.2.2.2.1, w_1.2.2.2.2.2.2.2.2.2.2.2.2.2.2.2.1, w_1.2.2.2.2.2.2.2.2.2.2.2.2.2.2.2.2.1, w_1.2.2.2.2.2.2.2.2.2.2.2.2.2.2.2.2.2.1, w_1.2.2.2.2.2.2.2.2.2.2.2.2.2.2.2.2.2.2.1, w_1.2.2.2.2.2.2.2.2.2.2.2.2.2.2.2.2.2.2.2.1, w_1.2.2.2.2.2.2.2.2.2.2.2.2.2.2.2.2.2.2.2.2.1, w_1.2.2.2.2.2.2.2.2.2.2.2.2.2.2.2.2.2.2.2.2.2.1, w_1.2.2.2.2.2.2.2.2.2.2.2.2.2.2.2.2.2.2.2.2.2.2.1, w_1.2.2.2.2.2.2.2.2.2.2.2.2.2.2.2.2.2.2.2.2.2.2.2.1, w_1.2.2.2.2.2.2.2.2.2.2.2.2.2.2.2.2.2.2.2.2.2.2.2.2)) _ _ _ _ dX8_summed_45 ⟨hF.symm, rfl⟩ hP hD hS
    · skip
      rw [if_pos c_3] at hF
      refine lv_bipush (v := 8) hx hb dX8_summed_35 (by decide) ?_
      refine lv_goto (tgt := 41) hx hb dX8_summed_37 (by decide) ?_
      refine pf_X8_86 (x := 8) hx hb hown ht hK hP hD hS 0 rfl (Nat.le_of_ble_eq_true rfl) dX8_summed_41 (fun H locs hP hD hS => ?_)
      have hP : va_P D vwCl [(a_this, oX8 a_this_bytes a_this_keys a_this_reg a_this_card a_this_filled a_this_taken a_this_line a_this_one a_this_two (w_1.1, w_1.2.1, 3, w_1.2.2.2.1, w_1.2.2.2.2.1, w_1.2.2.2.2.2.1, w_1.2.2.2.2.2.2.1, w_1.2.2.2.2.2.2.2.1, w_1.2.2.2.2.2.2.2.2.1, 8, w_1.2.2.2.2.2.2.2.2.2.2.1, w_1.2.2.2.2.2.2.2.2.2.2.2.1, w_1.2.2.2.2.2.2.2.2.2.2.2.2.1, w_1.2.2.2.2.2.2.2.2.2.2.2.2.2.1, w_1.2.2.2.2.2.2.2.2.2.2.2.2.2.2.1, w_1.2.2.2.2.2.2.2.2.2.2.2.2.2.2.2.1, w_1.2.2.2.2.2.2.2.2.2.2.2.2.2.2.2.2.1, w_1.2.2.2.2.2.2.2.2.2.2.2.2.2.2.2.2.2.1, w_1.2.2.2.2.2.2.2.2.2.2.2.2.2.2.2.2.2.2.1, w_1.2.2.2.2.2.2.2.2.2.2.2.2.2.2.2.2.2.2.2.1, w_1.2.2.2.2.2.2.2.2.2.2.2.2.2.2.2.2.2.2.2.2.1, w_1.2.2.2.2.2.2.2.2.2.2.2.2.2.2.2.2.2.2.2.2.2.1, w_1.2.2.2.2.2.2.2.2.2.2.2.2.2.2.2.2.2.2.2.2.2.2.1, w_1.2.2.2.2.2.2.2.2.2.2.2.2.2.2.2.2.2.2.2.2.2.2.2.1, w_1.2.2.2.2.2.2.2.2.2.2.2.2.2.2.2.2.2.2.2.2.2.2.2.2))] H := hP
      have hD : va_D A [(a_this, oX8 a_this_bytes a_this_keys a_this_reg a_this_card a_this_filled a_this_taken a_this_line a_this_one a_this_two (w_1.1, w_1.2.1, 3, w_1.2.2.2.1, w_1.2.2.2.2.1, w_1.2.2.2.2.2.1, w_1.2.2.2.2.2.2.1, w_1.2.2.2.2.2.2.2.1, w_1.2.2.2.2.2.2.2.2.1, 8, w_1.2.2.2.2.2.2.2.2.2.2.1, w_1.2.2.2.2.2.2.2.2.2.2.2.1, w_1.2.2.2.2.2.2.2.2.2.2.2.2.1, w_1.2.2.2.2.2.2.2.2.2.2.2.2.2.1, w_1.2.2.2.2.2.2.2.2.2.2.2.2.2.2.1, w_1.2.2.2.2.2.2.2.2.2.2.2.2.2.2.2.1, w_1.2.2.2.2.2.2.2.2.2.2.2.2.2.2.2.2.1, w_1.2.2.2.2.2.2.2.2.2.2.2.2.2.2.2.2.2.1, w_1.2.2.2.2.2.2.2.2.2.2.2.2.2.2.2.2.2.2.1, w_1.2.2.2.2.2.2.2.2.2.2.2.2.2.2.2.2.2.2.2.1, w_1.2.2.2.2.2.2.2.2.2.2.2.2.2.2.2.2.2.2.2.2.1, w_1.2.2.2.2.2.2.2.2.2.2.2.2.2.2.2.2.2.2.2.2.2.1, w_1.2.2.2.2.2.2.2.2.2.2.2.2.2.2.2.2.2.2.2.2.2.2.1, w_1.2.2.2.2.2.2.2.2.2.2.2.2.2.2.2.2.2.2.2.2.2.2.2.1, w_1.2.2.2.2.2.2.2.2.2.2.2.2.2.2.2.2.2.2.2.2.2.2.2.2))] := hD
      refine lv_iload_n hx hb dX8_summed_44 rfl (lv_at hl 0 rfl) ?_
      exact hQ p1.toInt32 (p1.toInt32, (w_1.1, w_1.2.1, 3, w_1.2.2.2.1, w_1.2.2.2.2.1, w_1.2.2.2.2.2.1, w_1.2.2.2.2.2.2.1, w_1.2.2.2.2.2.2.2.1, w_1.2.2.2.2.2.2.2.2.1, 8, w_1.2.2.2.2.2.2.2.2.2.2.1, w_1.2.2.2.2.2.2.2.2.2.2.2.1, w_1.2.2.2.2.2.2.2.2.2.2.2.2.1, w_1.2.2.2.2.2.2.2.2.2.2.2.2.2.1, w_1.2.2.2.2.2.2.2.2.2.2.2.2.2.2.1, w_1.2.2.2.2.2.2.2.2.2.2.2.2.2.2.2.1, w_1.2.2.2.2.2.2.2.2.2.2.2.2.2.2.2.2.1, w_1.2.2.2.2.2.2.2.2.2.2.2.2.2.2.2.2.2.1, w_1.2.2.2.2.2.2.2.2.2.2.2.2.2.2.2.2.2.2.1, w_1.2.2.2.2.2.2.2.2.2.2.2.2.2.2.2.2.2.2.2.1, w_1.2.2.2.2.2.2.2.2.2.2.2.2.2.2.2.2.2.2.2.2.1, w_1.2.2.2.2.2.2.2.2.2.2.2.2.2.2.2.2.2.2.2.2.2.1, w_1.2.2.2.2.2.2.2.2.2.2.2.2.2.2.2.2.2.2.2.2.2.2.1, w_1.2.2.2.2.2.2.2.2.2.2.2.2.2.2.2.2.2.2.2.2.2.2.2.1, w_1.2.2.2.2.2.2.2.2.2.2.2.2.2.2.2.2.2.2.2.2.2.2.2.2)) _ _ _ _ dX8_summed_45 ⟨hF.symm, rfl⟩ hP hD hS
theorem cv_X8_summed : qV yX8_summed cX8_summed 4 (some .int) 1 := ⟨kc_X8_summed, kt_X8_summed, ks_X8_summed, kn_X8, by decide, by decide +kernel⟩
def f_X8_logic (o_this : Int32 × Int32 × Int32 × Int32 × Bool × Bool × Int32 × Int32 × Int32 × Int32 × Bool × Bool × Bool × Int32 × Int32 × Int32 × Int32 × Int32 × Int32 × Int32 × Int32 × Int32 × Int32 × Int32 × Int32) (p1 : Int32) : Int32 × (Int32 × Int32 × Int32 × Int32 × Bool × Bool × Int32 × Int32 × Int32 × Int32 × Bool × Bool × Bool × Int32 × Int32 × Int32 × Int32 × Int32 × Int32 × Int32 × Int32 × Int32 × Int32 × Int32 × Int32) := (if p1 = 0 then (p1, (o_this.1, o_this.2.1, 0, o_this.2.2.2.1, o_this.2.2.2.2.1, o_this.2.2.2.2.2.1, o_this.2.2.2.2.2.2.1, o_this.2.2.2.2.2.2.2.1, o_this.2.2.2.2.2.2.2.2.1, o_this.2.2.2.2.2.2.2.2.2.1, o_this.2.2.2.2.2.2.2.2.2.2.1, o_this.2.2.2.2.2.2.2.2.2.2.2.1, o_this.2.2.2.2.2.2.2.2.2.2.2.2.1, o_this.2.2.2.2.2.2.2.2.2.2.2.2.2.1, o_this.2.2.2.2.2.2.2.2.2.2.2.2.2.2.1, o_this.2.2.2.2.2.2.2.2.2.2.2.2.2.2.2.1, o_this.2.2.2.2.2.2.2.2.2.2.2.2.2.2.2.2.1, o_this.2.2.2.2.2.2.2.2.2.2.2.2.2.2.2.2.2.1, o_this.2.2.2.2.2.2.2.2.2.2.2.2.2.2.2.2.2.2.1, o_this.2.2.2.2.2.2.2.2.2.2.2.2.2.2.2.2.2.2.2.1, o_this.2.2.2.2.2.2.2.2.2.2.2.2.2.2.2.2.2.2.2.2.1, o_this.2.2.2.2.2.2.2.2.2.2.2.2.2.2.2.2.2.2.2.2.2.1, o_this.2.2.2.2.2.2.2.2.2.2.2.2.2.2.2.2.2.2.2.2.2.2.1, o_this.2.2.2.2.2.2.2.2.2.2.2.2.2.2.2.2.2.2.2.2.2.2.2.1, o_this.2.2.2.2.2.2.2.2.2.2.2.2.2.2.2.2.2.2.2.2.2.2.2.2)) else (p1, (o_this.1, o_this.2.1, 1, o_this.2.2.2.1, o_this.2.2.2.2.1, o_this.2.2.2.2.2.1, o_this.2.2.2.2.2.2.1, o_this.2.2.2.2.2.2.2.1, o_this.2.2.2.2.2.2.2.2.1, o_this.2.2.2.2.2.2.2.2.2.1, o_this.2.2.2.2.2.2.2.2.2.2.1, o_this.2.2.2.2.2.2.2.2.2.2.2.1, o_this.2.2.2.2.2.2.2.2.2.2.2.2.1, o_this.2.2.2.2.2.2.2.2.2.2.2.2.2.1, o_this.2.2.2.2.2.2.2.2.2.2.2.2.2.2.1, o_this.2.2.2.2.2.2.2.2.2.2.2.2.2.2.2.1, o_this.2.2.2.2.2.2.2.2.2.2.2.2.2.2.2.2.1, o_this.2.2.2.2.2.2.2.2.2.2.2.2.2.2.2.2.2.1, o_this.2.2.2.2.2.2.2.2.2.2.2.2.2.2.2.2.2.2.1, o_this.2.2.2.2.2.2.2.2.2.2.2.2.2.2.2.2.2.2.2.1, o_this.2.2.2.2.2.2.2.2.2.2.2.2.2.2.2.2.2.2.2.2.1, o_this.2.2.2.2.2.2.2.2.2.2.2.2.2.2.2.2.2.2.2.2.2.1, o_this.2.2.2.2.2.2.2.2.2.2.2.2.2.2.2.2.2.2.2.2.2.2.1, o_this.2.2.2.2.2.2.2.2.2.2.2.2.2.2.2.2.2.2.2.2.2.2.2.1, o_this.2.2.2.2.2.2.2.2.2.2.2.2.2.2.2.2.2.2.2.2.2.2.2.2)))
set_option linter.all false in
set_option maxHeartbeats 4000000 in
set_option maxRecDepth 100000 in
theorem c_X8_logic (l : Launch) (D : va_G) (a_this a_this_bytes a_this_keys a_this_reg a_this_card a_this_filled a_this_taken a_this_line a_this_one a_this_two : Nat) (o_this : Int32 × Int32 × Int32 × Int32 × Bool × Bool × Int32 × Int32 × Int32 × Int32 × Bool × Bool × Bool × Int32 × Int32 × Int32 × Int32 × Int32 × Int32 × Int32 × Int32 × Int32 × Int32 × Int32 × Int32) (p1 : Int32) : CtI l yX8_logic cX8_logic 2 (some .int) { frames := 0, cells := 0, slots := 0, locals := 0 } D [.ref a_this, .int p1] [(a_this, oX8 a_this_bytes a_this_keys a_this_reg a_this_card a_this_filled a_this_taken a_this_line a_this_one a_this_two o_this)] [] (fun (r : Int32) (u : Int32 × (Int32 × Int32 × Int32 × Int32 × Bool × Bool × Int32 × Int32 × Int32 × Int32 × Bool × Bool × Bool × Int32 × Int32 × Int32 × Int32 × Int32 × Int32 × Int32 × Int32 × Int32 × Int32 × Int32 × Int32)) => f_X8_logic o_this p1 = u ∧ r = u.1) (fun u => [(a_this, oX8 a_this_bytes a_this_keys a_this_reg a_this_card a_this_filled a_this_taken a_this_line a_this_one a_this_two u.2)]) := by
  refine CtI.of (by decide) (Nat.le_of_ble_eq_true rfl) ?_
  intro p e s m below meth c A ls Q hE hP hD hS hl hQ
  obtain ⟨hx, hb, hml, hown, ht, hN, hK, hA⟩ := hE
  have hown : s.vm.findClass RX8 = some m.cls := hown
  have hl : lv_has ls 2 [(0, .ref a_this), (1, .int p1)] := hl
  obtain ⟨F, hF⟩ : ∃ F, f_X8_logic o_this p1 = F := ⟨_, rfl⟩
  rw [hF] at hQ
  unfold f_X8_logic at hF
  refine lv_aload_n hx hb dX8_logic_0 rfl (lv_at hl 0 rfl) ?_
  refine lv_iload_n hx hb dX8_logic_1 rfl (lv_at hl 1 rfl) ?_
  refine lv_if_ne (tgt := 9) hx hb dX8_logic_2 (by decide) (fun c_1 => ?_) (fun c_1 => ?_)
  · skip
    rw [if_neg c_1] at hF
    refine lv_iconst (v := 1) hx hb dX8_logic_9 (by decide) ?_
    refine pf_X8_52 (x := 1) hx hb hown ht hK hP hD hS 0 rfl (Nat.le_of_ble_eq_true rfl) dX8_logic_10 (fun H locs hP hD hS => ?_)
    have hP : va_P D vwCl [(a_this, oX8 a_this_bytes a_this_keys a_this_reg a_this_card a_this_filled a_this_taken a_this_line a_this_one a_this_two (o_this.1, o_this.2.1, 1, o_this.2.2.2.1, o_this.2.2.2.2.1, o_this.2.2.2.2.2.1, o_this.2.2.2.2.2.2.1, o_this.2.2.2.2.2.2.2.1, o_this.2.2.2.2.2.2.2.2.1, o_this.2.2.2.2.2.2.2.2.2.1, o_this.2.2.2.2.2.2.2.2.2.2.1, o_this.2.2.2.2.2.2.2.2.2.2.2.1, o_this.2.2.2.2.2.2.2.2.2.2.2.2.1, o_this.2.2.2.2.2.2.2.2.2.2.2.2.2.1, o_this.2.2.2.2.2.2.2.2.2.2.2.2.2.2.1, o_this.2.2.2.2.2.2.2.2.2.2.2.2.2.2.2.1, o_this.2.2.2.2.2.2.2.2.2.2.2.2.2.2.2.2.1, o_this.2.2.2.2.2.2.2.2.2.2.2.2.2.2.2.2.2.1, o_this.2.2.2.2.2.2.2.2.2.2.2.2.2.2.2.2.2.2.1, o_this.2.2.2.2.2.2.2.2.2.2.2.2.2.2.2.2.2.2.2.1, o_this.2.2.2.2.2.2.2.2.2.2.2.2.2.2.2.2.2.2.2.2.1, o_this.2.2.2.2.2.2.2.2.2.2.2.2.2.2.2.2.2.2.2.2.2.1, o_this.2.2.2.2.2.2.2.2.2.2.2.2.2.2.2.2.2.2.2.2.2.2.1, o_this.2.2.2.2.2.2.2.2.2.2.2.2.2.2.2.2.2.2.2.2.2.2.2.1, o_this.2.2.2.2.2.2.2.2.2.2.2.2.2.2.2.2.2.2.2.2.2.2.2.2))] H := hP
    have hD : va_D A [(a_this, oX8 a_this_bytes a_this_keys a_this_reg a_this_card a_this_filled a_this_taken a_this_line a_this_one a_this_two (o_this.1, o_this.2.1, 1, o_this.2.2.2.1, o_this.2.2.2.2.1, o_this.2.2.2.2.2.1, o_this.2.2.2.2.2.2.1, o_this.2.2.2.2.2.2.2.1, o_this.2.2.2.2.2.2.2.2.1, o_this.2.2.2.2.2.2.2.2.2.1, o_this.2.2.2.2.2.2.2.2.2.2.1, o_this.2.2.2.2.2.2.2.2.2.2.2.1, o_this.2.2.2.2.2.2.2.2.2.2.2.2.1, o_this.2.2.2.2.2.2.2.2.2.2.2.2.2.1, o_this.2.2.2.2.2.2.2.2.2.2.2.2.2.2.1, o_this.2.2.2.2.2.2.2.2.2.2.2.2.2.2.2.1, o_this.2.2.2.2.2.2.2.2.2.2.2.2.2.2.2.2.1, o_this.2.2.2.2.2.2.2.2.2.2.2.2.2.2.2.2.2.1, o_this.2.2.2.2.2.2.2.2.2.2.2.2.2.2.2.2.2.2.1, o_this.2.2.2.2.2.2.2.2.2.2.2.2.2.2.2.2.2.2.2.1, o_this.2.2.2.2.2.2.2.2.2.2.2.2.2.2.2.2.2.2.2.2.1, o_this.2.2.2.2.2.2.2.2.2.2.2.2.2.2.2.2.2.2.2.2.2.1, o_this.2.2.2.2.2.2.2.2.2.2.2.2.2.2.2.2.2.2.2.2.2.2.1, o_this.2.2.2.2.2.2.2.2.2.2.2.2.2.2.2.2.2.2.2.2.2.2.2.1, o_this.2.2.2.2.2.2.2.2.2.2.2.2.2.2.2.2.2.2.2.2.2.2.2.2))] := hD
    refine lv_iload_n hx hb dX8_logic_13 rfl (lv_at hl 1 rfl) ?_
    exact hQ p1 (p1, (o_this.1, o_this.2.1, 1, o_this.2.2.2.1, o_this.2.2.2.2.1, o_this.2.2.2.2.2.1, o_this.2.2.2.2.2.2.1, o_this.2.2.2.2.2.2.2.1, o_this.2.2.2.2.2.2.2.2.1, o_this.2.2.2.2.2.2.2.2.2.1, o_this.2.2.2.2.2.2.2.2.2.2.1, o_this.2.2.2.2.2.2.2.2.2.2.2.1, o_this.2.2.2.2.2.2.2.2.2.2.2.2.1, o_this.2.2.2.2.2.2.2.2.2.2.2.2.2.1, o_this.2.2.2.2.2.2.2.2.2.2.2.2.2.2.1, o_this.2.2.2.2.2.2.2.2.2.2.2.2.2.2.2.1, o_this.2.2.2.2.2.2.2.2.2.2.2.2.2.2.2.2.1, o_this.2.2.2.2.2.2.2.2.2.2.2.2.2.2.2.2.2.1, o_this.2.2.2.2.2.2.2.2.2.2.2.2.2.2.2.2.2.2.1, o_this.2.2.2.2.2.2.2.2.2.2.2.2.2.2.2.2.2.2.2.1, o_this.2.2.2.2.2.2.2.2.2.2.2.2.2.2.2.2.2.2.2.2.1, o_this.2.2.2.2.2.2.2.2.2.2.2.2.2.2.2.2.2.2.2.2.2.1, o_this.2.2.2.2.2.2.2.2.2.2.2.2.2.2.2.2.2.2.2.2.2.2.1, o_this.2.2.2.2.2.2.2.2.2.2.2.2.2.2.2.2.2.2.2.2.2.2.2.1, o_this.2.2.2.2.2.2.2.2.2.2.2.2.2.2.2.2.2.2.2.2.2.2.2.2)) _ _ _ _ dX8_logic_14 ⟨hF.symm, rfl⟩ hP hD hS
  · skip
    rw [if_pos c_1] at hF
    refine lv_iconst (v := 0) hx hb dX8_logic_5 (by decide) ?_
    refine lv_goto (tgt := 10) hx hb dX8_logic_6 (by decide) ?_
    refine pf_X8_52 (x := 0) hx hb hown ht hK hP hD hS 0 rfl (Nat.le_of_ble_eq_true rfl) dX8_logic_10 (fun H locs hP hD hS => ?_)
    have hP : va_P D vwCl [(a_this, oX8 a_this_bytes a_this_keys a_this_reg a_this_card a_this_filled a_this_taken a_this_line a_this_one a_this_two (o_this.1, o_this.2.1, 0, o_this.2.2.2.1, o_this.2.2.2.2.1, o_this.2.2.2.2.2.1, o_this.2.2.2.2.2.2.1, o_this.2.2.2.2.2.2.2.1, o_this.2.2.2.2.2.2.2.2.1, o_this.2.2.2.2.2.2.2.2.2.1, o_this.2.2.2.2.2.2.2.2.2.2.1, o_this.2.2.2.2.2.2.2.2.2.2.2.1, o_this.2.2.2.2.2.2.2.2.2.2.2.2.1, o_this.2.2.2.2.2.2.2.2.2.2.2.2.2.1, o_this.2.2.2.2.2.2.2.2.2.2.2.2.2.2.1, o_this.2.2.2.2.2.2.2.2.2.2.2.2.2.2.2.1, o_this.2.2.2.2.2.2.2.2.2.2.2.2.2.2.2.2.1, o_this.2.2.2.2.2.2.2.2.2.2.2.2.2.2.2.2.2.1, o_this.2.2.2.2.2.2.2.2.2.2.2.2.2.2.2.2.2.2.1, o_this.2.2.2.2.2.2.2.2.2.2.2.2.2.2.2.2.2.2.2.1, o_this.2.2.2.2.2.2.2.2.2.2.2.2.2.2.2.2.2.2.2.2.1, o_this.2.2.2.2.2.2.2.2.2.2.2.2.2.2.2.2.2.2.2.2.2.1, o_this.2.2.2.2.2.2.2.2.2.2.2.2.2.2.2.2.2.2.2.2.2.2.1, o_this.2.2.2.2.2.2.2.2.2.2.2.2.2.2.2.2.2.2.2.2.2.2.2.1, o_this.2.2.2.2.2.2.2.2.2.2.2.2.2.2.2.2.2.2.2.2.2.2.2.2))] H := hP
    have hD : va_D A [(a_this, oX8 a_this_bytes a_this_keys a_this_reg a_this_card a_this_filled a_this_taken a_this_line a_this_one a_this_two (o_this.1, o_this.2.1, 0, o_this.2.2.2.1, o_this.2.2.2.2.1, o_this.2.2.2.2.2.1, o_this.2.2.2.2.2.2.1, o_this.2.2.2.2.2.2.2.1, o_this.2.2.2.2.2.2.2.2.1, o_this.2.2.2.2.2.2.2.2.2.1, o_this.2.2.2.2.2.2.2.2.2.2.1, o_this.2.2.2.2.2.2.2.2.2.2.2.1, o_this.2.2.2.2.2.2.2.2.2.2.2.2.1, o_this.2.2.2.2.2.2.2.2.2.2.2.2.2.1, o_this.2.2.2.2.2.2.2.2.2.2.2.2.2.2.1, o_this.2.2.2.2.2.2.2.2.2.2.2.2.2.2.2.1, o_this.2.2.2.2.2.2.2.2.2.2.2.2.2.2.2.2.1, o_this.2.2.2.2.2.2.2.2.2.2.2.2.2.2.2.2.2.1, o_this.2.2.2.2.2.2.2.2.2.2.2.2.2.2.2.2.2.2.1, o_this.2.2.2.2.2.2.2.2.2.2.2.2.2.2.2.2.2.2.2.1, o_this.2.2.2.2.2.2.2.2.2.2.2.2.2.2.2.2.2.2.2.2.1, o_this.2.2.2.2.2.2.2.2.2.2.2.2.2.2.2.2.2.2.2.2.2.1, o_this.2.2.2.2.2.2.2.2.2.2.2.2.2.2.2.2.2.2.2.2.2.2.1, o_this.2.2.2.2.2.2.2.2.2.2.2.2.2.2.2.2.2.2.2.2.2.2.2.1, o_this.2.2.2.2.2.2.2.2.2.2.2.2.2.2.2.2.2.2.2.2.2.2.2.2))] := hD
    refine lv_iload_n hx hb dX8_logic_13 rfl (lv_at hl 1 rfl) ?_
    exact hQ p1 (p1, (o_this.1, o_this.2.1, 0, o_this.2.2.2.1, o_this.2.2.2.2.1, o_this.2.2.2.2.2.1, o_this.2.2.2.2.2.2.1, o_this.2.2.2.2.2.2.2.1, o_this.2.2.2.2.2.2.2.2.1, o_this.2.2.2.2.2.2.2.2.2.1, o_this.2.2.2.2.2.2.2.2.2.2.1, o_this.2.2.2.2.2.2.2.2.2.2.2.1, o_this.2.2.2.2.2.2.2.2.2.2.2.2.1, o_this.2.2.2.2.2.2.2.2.2.2.2.2.2.1, o_this.2.2.2.2.2.2.2.2.2.2.2.2.2.2.1, o_this.2.2.2.2.2.2.2.2.2.2.2.2.2.2.2.1, o_this.2.2.2.2.2.2.2.2.2.2.2.2.2.2.2.2.1, o_this.2.2.2.2.2.2.2.2.2.2.2.2.2.2.2.2.2.1, o_this.2.2.2.2.2.2.2.2.2.2.2.2.2.2.2.2.2.2.1, o_this.2.2.2.2.2.2.2.2.2.2.2.2.2.2.2.2.2.2.2.1, o_this.2.2.2.2.2.2.2.2.2.2.2.2.2.2.2.2.2.2.2.2.1, o_this.2.2.2.2.2.2.2.2.2.2.2.2.2.2.2.2.2.2.2.2.2.1, o_this.2.2.2.2.2.2.2.2.2.2.2.2.2.2.2.2.2.2.2.2.2.2.1, o_this.2.2.2.2.2.2.2.2.2.2.2.2.2.2.2.2.2.2.2.2.2.2.2.1, o_this.2.2.2.2.2.2.2.2.2.2.2.2.2.2.2.2.2.2.2.2.2.2.2.2)) _ _ _ _ dX8_logic_14 ⟨hF.symm, rfl⟩ hP hD hS
theorem cv_X8_logic : qV yX8_logic cX8_logic 2 (some .int) 1 := ⟨kc_X8_logic, kt_X8_logic, ks_X8_logic, kn_X8, by decide, by decide +kernel⟩
def f_X8_compared (o_this : Int32 × Int32 × Int32 × Int32 × Bool × Bool × Int32 × Int32 × Int32 × Int32 × Bool × Bool × Bool × Int32 × Int32 × Int32 × Int32 × Int32 × Int32 × Int32 × Int32 × Int32 × Int32 × Int32 × Int32) (p1 : Int32) (p2 : Int32) : Int32 × Int32 × Int32 × Int32 × Bool × Bool × Int32 × Int32 × Int32 × Int32 × Bool × Bool × Bool × Int32 × Int32 × Int32 × Int32 × Int32 × Int32 × Int32 × Int32 × Int32 × Int32 × Int32 × Int32 := (if p1 = p2 then (o_this.1, o_this.2.1, 0, o_this.2.2.2.1, o_this.2.2.2.2.1, o_this.2.2.2.2.2.1, o_this.2.2.2.2.2.2.1, o_this.2.2.2.2.2.2.2.1, o_this.2.2.2.2.2.2.2.2.1, o_this.2.2.2.2.2.2.2.2.2.1, o_this.2.2.2.2.2.2.2.2.2.2.1, o_this.2.2.2.2.2.2.2.2.2.2.2.1, o_this.2.2.2.2.2.2.2.2.2.2.2.2.1, o_this.2.2.2.2.2.2.2.2.2.2.2.2.2.1, o_this.2.2.2.2.2.2.2.2.2.2.2.2.2.2.1, o_this.2.2.2.2.2.2.2.2.2.2.2.2.2.2.2.1, o_this.2.2.2.2.2.2.2.2.2.2.2.2.2.2.2.2.1, o_this.2.2.2.2.2.2.2.2.2.2.2.2.2.2.2.2.2.1, o_this.2.2.2.2.2.2.2.2.2.2.2.2.2.2.2.2.2.2.1, o_this.2.2.2.2.2.2.2.2.2.2.2.2.2.2.2.2.2.2.2.1, o_this.2.2.2.2.2.2.2.2.2.2.2.2.2.2.2.2.2.2.2.2.1, o_this.2.2.2.2.2.2.2.2.2.2.2.2.2.2.2.2.2.2.2.2.2.1, o_this.2.2.2.2.2.2.2.2.2.2.2.2.2.2.2.2.2.2.2.2.2.2.1, o_this.2.2.2.2.2.2.2.2.2.2.2.2.2.2.2.2.2.2.2.2.2.2.2.1, o_this.2.2.2.2.2.2.2.2.2.2.2.2.2.2.2.2.2.2.2.2.2.2.2.2) else (if p2 ≤ p1 then (o_this.1, o_this.2.1, 2, o_this.2.2.2.1, o_this.2.2.2.2.1, o_this.2.2.2.2.2.1, o_this.2.2.2.2.2.2.1, o_this.2.2.2.2.2.2.2.1, o_this.2.2.2.2.2.2.2.2.1, o_this.2.2.2.2.2.2.2.2.2.1, o_this.2.2.2.2.2.2.2.2.2.2.1, o_this.2.2.2.2.2.2.2.2.2.2.2.1, o_this.2.2.2.2.2.2.2.2.2.2.2.2.1, o_this.2.2.2.2.2.2.2.2.2.2.2.2.2.1, o_this.2.2.2.2.2.2.2.2.2.2.2.2.2.2.1, o_this.2.2.2.2.2.2.2.2.2.2.2.2.2.2.2.1, o_this.2.2.2.2.2.2.2.2.2.2.2.2.2.2.2.2.1, o_this.2.2.2.2.2.2.2.2.2.2.2.2.2.2.2.2.2.1, o_this.2.2.2.2.2.2.2.2.2.2.2.2.2.2.2.2.2.2.1, o_this.2.2.2.2.2.2.2.2.2.2.2.2.2.2.2.2.2.2.2.1, o_this.2.2.2.2.2.2.2.2.2.2.2.2.2.2.2.2.2.2.2.2.1, o_this.2.2.2.2.2.2.2.2.2.2.2.2.2.2.2.2.2.2.2.2.2.1, o_this.2.2.2.2.2.2.2.2.2.2.2.2.2.2.2.2.2.2.2.2.2.2.1, o_this.2.2.2.2.2.2.2.2.2.2.2.2.2.2.2.2.2.2.2.2.2.2.2.1, o_this.2.2.2.2.2.2.2.2.2.2.2.2.2.2.2.2.2.2.2.2.2.2.2.2) else (o_this.1, o_this.2.1, 1, o_this.2.2.2.1, o_this.2.2.2.2.1, o_this.2.2.2.2.2.1, o_this.2.2.2.2.2.2.1, o_this.2.2.2.2.2.2.2.1, o_this.2.2.2.2.2.2.2.2.1, o_this.2.2.2.2.2.2.2.2.2.1, o_this.2.2.2.2.2.2.2.2.2.2.1, o_this.2.2.2.2.2.2.2.2.2.2.2.1, o_this.2.2.2.2.2.2.2.2.2.2.2.2.1, o_this.2.2.2.2.2.2.2.2.2.2.2.2.2.1, o_this.2.2.2.2.2.2.2.2.2.2.2.2.2.2.1, o_this.2.2.2.2.2.2.2.2.2.2.2.2.2.2.2.1, o_this.2.2.2.2.2.2.2.2.2.2.2.2.2.2.2.2.1, o_this.2.2.2.2.2.2.2.2.2.2.2.2.2.2.2.2.2.1, o_this.2.2.2.2.2.2.2.2.2.2.2.2.2.2.2.2.2.2.1, o_this.2.2.2.2.2.2.2.2.2.2.2.2.2.2.2.2.2.2.2.1, o_this.2.2.2.2.2.2.2.2.2.2.2.2.2.2.2.2.2.2.2.2.1, o_this.2.2.2.2.2.2.2.2.2.2.2.2.2.2.2.2.2.2.2.2.2.1, o_this.2.2.2.2.2.2.2.2.2.2.2.2.2.2.2.2.2.2.2.2.2.2.1, o_this.2.2.2.2.2.2.2.2.2.2.2.2.2.2.2.2.2.2.2.2.2.2.2.1, o_this.2.2.2.2.2.2.2.2.2.2.2.2.2.2.2.2.2.2.2.2.2.2.2.2)))
set_option linter.all false in
set_option maxHeartbeats 4000000 in
set_option maxRecDepth 100000 in
theorem c_X8_compared (l : Launch) (D : va_G) (a_this a_this_bytes a_this_keys a_this_reg a_this_card a_this_filled a_this_taken a_this_line a_this_one a_this_two : Nat) (o_this : Int32 × Int32 × Int32 × Int32 × Bool × Bool × Int32 × Int32 × Int32 × Int32 × Bool × Bool × Bool × Int32 × Int32 × Int32 × Int32 × Int32 × Int32 × Int32 × Int32 × Int32 × Int32 × Int32 × Int32) (p1 : Int32) (p2 : Int32) : CtV l yX8_compared cX8_compared 3 none { frames := 0, cells := 0, slots := 0, locals := 0 } D [.ref a_this, .int p1, .int p2] [(a_this, oX8 a_this_bytes a_this_keys a_this_reg a_this_card a_this_filled a_this_taken a_this_line a_this_one a_this_two o_this)] [] (fun (u : Int32 × Int32 × Int32 × Int32 × Bool × Bool × Int32 × Int32 × Int32 × Int32 × Bool × Bool × Bool × Int32 × Int32 × Int32 × Int32 × Int32 × Int32 × Int32 × Int32 × Int32 × Int32 × Int32 × Int32) => f_X8_compared o_this p1 p2 = u) (fun u => [(a_this, oX8 a_this_bytes a_this_keys a_this_reg a_this_card a_this_filled a_this_taken a_this_line a_this_one a_this_two u)]) := by
  refine CtV.of (by decide) (Nat.le_of_ble_eq_true rfl) ?_
  intro p e s m below meth c A ls Q hE hP hD hS hl hQ
  obtain ⟨hx, hb, hml, hown, ht, hN, hK, hA⟩ := hE
  have hown : s.vm.findClass RX8 = some m.cls := hown
  have hl : lv_has ls 3 [(0, .ref a_this), (1, .int p1), (2, .int p2)] := hl
  obtain ⟨F, hF⟩ : ∃ F, f_X8_compared o_this p1 p2 = F := ⟨_, rfl⟩
  rw [hF] at hQ
  unfold f_X8_compared at hF
  refine lv_aload_n hx hb dX8_compared_0 rfl (lv_at hl 0 rfl) ?_
  refine lv_iload_n hx hb dX8_compared_1 rfl (lv_at hl 1 rfl) ?_
  refine lv_iload_n hx hb dX8_compared_2 rfl (lv_at hl 2 rfl) ?_
  refine lv_icmp_ne (tgt := 10) hx hb dX8_compared_3 (by decide) (fun c_1 => ?_) (fun c_1 => ?_)
  · skip
    rw [if_neg c_1] at hF
    refine lv_iload_n hx hb dX8_compared_10 rfl (lv_at hl 1 rfl) ?_
    refine lv_iload_n hx hb dX8_compared_11 rfl (lv_at hl 2 rfl) ?_
    refine lv_icmp_ge (tgt := 19) hx hb dX8_compared_12 (by decide) (fun c_2 => ?_) (fun c_2 => ?_)
    · skip
      rw [if_pos c_2] at hF
      refine lv_iconst (v := 2) hx hb dX8_compared_19 (by decide) ?_
      refine pf_X8_52 (x := 2) hx hb hown ht hK hP hD hS 0 rfl (Nat.le_of_ble_eq_true rfl) dX8_compared_20 (fun H locs hP hD hS => ?_)
      have hP : va_P D vwCl [(a_this, oX8 a_this_bytes a_this_keys a_this_reg a_this_card a_this_filled a_this_taken a_this_line a_this_one a_this_two (o_this.1, o_this.2.1, 2, o_this.2.2.2.1, o_this.2.2.2.2.1, o_this.2.2.2.2.2.1, o_this.2.2.2.2.2.2.1, o_this.2.2.2.2.2.2.2.1, o_this.2.2.2.2.2.2.2.2.1, o_this.2.2.2.2.2.2.2.2.2.1, o_this.2.2.2.2.2.2.2.2.2.2.1, o_this.2.2.2.2.2.2.2.2.2.2.2.1, o_this.2.2.2.2.2.2.2.2.2.2.2.2.1, o_this.2.2.2.2.2.2.2.2.2.2.2.2.2.1, o_this.2.2.2.2.2.2.2.2.2.2.2.2.2.2.1, o_this.2.2.2.2.2.2.2.2.2.2.2.2.2.2.2.1, o_this.2.2.2.2.2.2.2.2.2.2.2.2.2.2.2.2.1, o_this.2.2.2.2.2.2.2.2.2.2.2.2.2.2.2.2.2.1, o_this.2.2.2.2.2.2.2.2.2.2.2.2.2.2.2.2.2.2.1, o_this.2.2.2.2.2.2.2.2.2.2.2.2.2.2.2.2.2.2.2.1, o_this.2.2.2.2.2.2.2.2.2.2.2.2.2.2.2.2.2.2.2.2.1, o_this.2.2.2.2.2.2.2.2.2.2.2.2.2.2.2.2.2.2.2.2.2.1, o_this.2.2.2.2.2.2.2.2.2.2.2.2.2.2.2.2.2.2.2.2.2.2.1, o_this.2.2.2.2.2.2.2.2.2.2.2.2.2.2.2.2.2.2.2.2.2.2.2.1, o_this.2.2.2.2.2.2.2.2.2.2.2.2.2.2.2.2.2.2.2.2.2.2.2.2))] H := hP
      have hD : va_D A [(a_this, oX8 a_this_bytes a_this_keys a_this_reg a_this_card a_this_filled a_this_taken a_this_line a_this_one a_this_two (o_this.1, o_this.2.1, 2, o_this.2.2.2.1, o_this.2.2.2.2.1, o_this.2.2.2.2.2.1, o_this.2.2.2.2.2.2.1, o_this.2.2.2.2.2.2.2.1, o_this.2.2.2.2.2.2.2.2.1, o_this.2.2.2.2.2.2.2.2.2.1, o_this.2.2.2.2.2.2.2.2.2.2.1, o_this.2.2.2.2.2.2.2.2.2.2.2.1, o_this.2.2.2.2.2.2.2.2.2.2.2.2.1, o_this.2.2.2.2.2.2.2.2.2.2.2.2.2.1, o_this.2.2.2.2.2.2.2.2.2.2.2.2.2.2.1, o_this.2.2.2.2.2.2.2.2.2.2.2.2.2.2.2.1, o_this.2.2.2.2.2.2.2.2.2.2.2.2.2.2.2.2.1, o_this.2.2.2.2.2.2.2.2.2.2.2.2.2.2.2.2.2.1, o_this.2.2.2.2.2.2.2.2.2.2.2.2.2.2.2.2.2.2.1, o_this.2.2.2.2.2.2.2.2.2.2.2.2.2.2.2.2.2.2.2.1, o_this.2.2.2.2.2.2.2.2.2.2.2.2.2.2.2.2.2.2.2.2.1, o_this.2.2.2.2.2.2.2.2.2.2.2.2.2.2.2.2.2.2.2.2.2.1, o_this.2.2.2.2.2.2.2.2.2.2.2.2.2.2.2.2.2.2.2.2.2.2.1, o_this.2.2.2.2.2.2.2.2.2.2.2.2.2.2.2.2.2.2.2.2.2.2.2.1, o_this.2.2.2.2.2.2.2.2.2.2.2.2.2.2.2.2.2.2.2.2.2.2.2.2))] := hD
      exact hQ (o_this.1, o_this.2.1, 2, o_this.2.2.2.1, o_this.2.2.2.2.1, o_this.2.2.2.2.2.1, o_this.2.2.2.2.2.2.1, o_this.2.2.2.2.2.2.2.1, o_this.2.2.2.2.2.2.2.2.1, o_this.2.2.2.2.2.2.2.2.2.1, o_this.2.2.2.2.2.2.2.2.2.2.1, o_this.2.2.2.2.2.2.2.2.2.2.2.1, o_this.2.2.2.2.2.2.2.2.2.2.2.2.1, o_this.2.2.2.2.2.2.2.2.2.2.2.2.2.1, o_this.2.2.2.2.2.2.2.2.2.2.2.2.2.2.1, o_this.2.2.2.2.2.2.2.2.2.2.2.2.2.2.2.1, o_this.2.2.2.2.2.2.2.2.2.2.2.2.2.2.2.2.1, o_this.2.2.2.2.2.2.2.2.2.2.2.2.2.2.2.2.2.1, o_this.2.2.2.2.2.2.2.2.2.2.2.2.2.2.2.2.2.2.1, o_this.2.2.2.2.2.2.2.2.2.2.2.2.2.2.2.2.2.2.2.1, o_this.2.2.2.2.2.2.2.2.2.2.2.2.2.2.2.2.2.2.2.2.1, o_this.2.2.2.2.2.2.2.2.2.2.2.2.2.2.2.2.2.2.2.2.2.1, o_this.2.2.2.2.2.2.2.2.2.2.2.2.2.2.2.2.2.2.2.2.2.2.1, o_this.2.2.2.2.2.2.2.2.2.2.2.2.2.2.2.2.2.2.2.2.2.2.2.1, o_this.2.2.2.2.2.2.2.2.2.2.2.2.2.2.2.2.2.2.2.2.2.2.2.2) _ _ _ _ dX8_compared_23 hF.symm hP hD hS
    · skip
      rw [if_neg c_2] at hF
      refine lv_iconst (v := 1) hx hb dX8_compared_15 (by decide) ?_
      refine lv_goto (tgt := 20) hx hb dX8_compared_16 (by decide) ?_
      refine pf_X8_52 (x := 1) hx hb hown ht hK hP hD hS 0 rfl (Nat.le_of_ble_eq_true rfl) dX8_compared_20 (fun H locs hP hD hS => ?_)
      have hP : va_P D vwCl [(a_this, oX8 a_this_bytes a_this_keys a_this_reg a_this_card a_this_filled a_this_taken a_this_line a_this_one a_this_two (o_this.1, o_this.2.1, 1, o_this.2.2.2.1, o_this.2.2.2.2.1, o_this.2.2.2.2.2.1, o_this.2.2.2.2.2.2.1, o_this.2.2.2.2.2.2.2.1, o_this.2.2.2.2.2.2.2.2.1, o_this.2.2.2.2.2.2.2.2.2.1, o_this.2.2.2.2.2.2.2.2.2.2.1, o_this.2.2.2.2.2.2.2.2.2.2.2.1, o_this.2.2.2.2.2.2.2.2.2.2.2.2.1, o_this.2.2.2.2.2.2.2.2.2.2.2.2.2.1, o_this.2.2.2.2.2.2.2.2.2.2.2.2.2.2.1, o_this.2.2.2.2.2.2.2.2.2.2.2.2.2.2.2.1, o_this.2.2.2.2.2.2.2.2.2.2.2.2.2.2.2.2.1, o_this.2.2.2.2.2.2.2.2.2.2.2.2.2.2.2.2.2.1, o_this.2.2.2.2.2.2.2.2.2.2.2.2.2.2.2.2.2.2.1, o_this.2.2.2.2.2.2.2.2.2.2.2.2.2.2.2.2.2.2.2.1, o_this.2.2.2.2.2.2.2.2.2.2.2.2.2.2.2.2.2.2.2.2.1, o_this.2.2.2.2.2.2.2.2.2.2.2.2.2.2.2.2.2.2.2.2.2.1, o_this.2.2.2.2.2.2.2.2.2.2.2.2.2.2.2.2.2.2.2.2.2.2.1, o_this.2.2.2.2.2.2.2.2.2.2.2.2.2.2.2.2.2.2.2.2.2.2.2.1, o_this.2.2.2.2.2.2.2.2.2.2.2.2.2.2.2.2.2.2.2.2.2.2.2.2))] H := hP
      have hD : va_D A [(a_this, oX8 a_this_bytes a_this_keys a_this_reg a_this_card a_this_filled a_this_taken a_this_line a_this_one a_this_two (o_this.1, o_this.2.1, 1, o_this.2.2.2.1, o_this.2.2.2.2.1, o_this.2.2.2.2.2.1, o_this.2.2.2.2.2.2.1, o_this.2.2.2.2.2.2.2.1, o_this.2.2.2.2.2.2.2.2.1, o_this.2.2.2.2.2.2.2.2.2.1, o_this.2.2.2.2.2.2.2.2.2.2.1, o_this.2.2.2.2.2.2.2.2.2.2.2.1, o_this.2.2.2.2.2.2.2.2.2.2.2.2.1, o_this.2.2.2.2.2.2.2.2.2.2.2.2.2.1, o_this.2.2.2.2.2.2.2.2.2.2.2.2.2.2.1, o_this.2.2.2.2.2.2.2.2.2.2.2.2.2.2.2.1, o_this.2.2.2.2.2.2.2.2.2.2.2.2.2.2.2.2.1, o_this.2.2.2.2.2.2.2.2.2.2.2.2.2.2.2.2.2.1, o_this.2.2.2.2.2.2.2.2.2.2.2.2.2.2.2.2.2.2.1, o_this.2.2.2.2.2.2.2.2.2.2.2.2.2.2.2.2.2.2.2.1, o_this.2.2.2.2.2.2.2.2.2.2.2.2.2.2.2.2.2.2.2.2.1, o_this.2.2.2.2.2.2.2.2.2.2.2.2.2.2.2.2.2.2.2.2.2.1, o_this.2.2.2.2.2.2.2.2.2.2.2.2.2.2.2.2.2.2.2.2.2.2.1, o_this.2.2.2.2.2.2.2.2.2.2.2.2.2.2.2.2.2.2.2.2.2.2.2.1, o_this.2.2.2.2.2.2.2.2.2.2.2.2.2.2.2.2.2.2.2.2.2.2.2.2))] := hD
      exact hQ (o_this.1, o_this.2.1, 1, o_this.2.2.2.1, o_this.2.2.2.2.1, o_this.2.2.2.2.2.1, o_this.2.2.2.2.2.2.1, o_this.2.2.2.2.2.2.2.1, o_this.2.2.2.2.2.2.2.2.1, o_this.2.2.2.2.2.2.2.2.2.1, o_this.2.2.2.2.2.2.2.2.2.2.1, o_this.2.2.2.2.2.2.2.2.2.2.2.1, o_this.2.2.2.2.2.2.2.2.2.2.2.2.1, o_this.2.2.2.2.2.2.2.2.2.2.2.2.2.1, o_this.2.2.2.2.2.2.2.2.2.2.2.2.2.2.1, o_this.2.2.2.2.2.2.2.2.2.2.2.2.2.2.2.1, o_this.2.2.2.2.2.2.2.2.2.2.2.2.2.2.2.2.1, o_this.2.2.2.2.2.2.2.2.2.2.2.2.2.2.2.2.2.1, o_this.2.2.2.2.2.2.2.2.2.2.2.2.2.2.2.2.2.2.1, o_this.2.2.2.2.2.2.2.2.2.2.2.2.2.2.2.2.2.2.2.1, o_this.2.2.2.2.2.2.2.2.2.2.2.2.2.2.2.2.2.2.2.2.1, o_this.2.2.2.2.2.2.2.2.2.2.2.2.2.2.2.2.2.2.2.2.2.1, o_this.2.2.2.2.2.2.2.2.2.2.2.2.2.2.2.2.2.2.2.2.2.2.1, o_this.2.2.2.2.2.2.2.2.2.2.2.2.2.2.2.2.2.2.2.2.2.2.2.1, o_this.2.2.2.2.2.2.2.2.2.2.2.2.2.2.2.2.2.2.2.2.2.2.2.2) _ _ _ _ dX8_compared_23 hF.symm hP hD hS
  · skip
    rw [if_pos c_1] at hF
    refine lv_iconst (v := 0) hx hb dX8_compared_6 (by decide) ?_
    refine lv_goto (tgt := 20) hx hb dX8_compared_7 (by decide) ?_
    refine pf_X8_52 (x := 0) hx hb hown ht hK hP hD hS 0 rfl (Nat.le_of_ble_eq_true rfl) dX8_compared_20 (fun H locs hP hD hS => ?_)
    have hP : va_P D vwCl [(a_this, oX8 a_this_bytes a_this_keys a_this_reg a_this_card a_this_filled a_this_taken a_this_line a_this_one a_this_two (o_this.1, o_this.2.1, 0, o_this.2.2.2.1, o_this.2.2.2.2.1, o_this.2.2.2.2.2.1, o_this.2.2.2.2.2.2.1, o_this.2.2.2.2.2.2.2.1, o_this.2.2.2.2.2.2.2.2.1, o_this.2.2.2.2.2.2.2.2.2.1, o_this.2.2.2.2.2.2.2.2.2.2.1, o_this.2.2.2.2.2.2.2.2.2.2.2.1, o_this.2.2.2.2.2.2.2.2.2.2.2.2.1, o_this.2.2.2.2.2.2.2.2.2.2.2.2.2.1, o_this.2.2.2.2.2.2.2.2.2.2.2.2.2.2.1, o_this.2.2.2.2.2.2.2.2.2.2.2.2.2.2.2.1, o_this.2.2.2.2.2.2.2.2.2.2.2.2.2.2.2.2.1, o_this.2.2.2.2.2.2.2.2.2.2.2.2.2.2.2.2.2.1, o_this.2.2.2.2.2.2.2.2.2.2.2.2.2.2.2.2.2.2.1, o_this.2.2.2.2.2.2.2.2.2.2.2.2.2.2.2.2.2.2.2.1, o_this.2.2.2.2.2.2.2.2.2.2.2.2.2.2.2.2.2.2.2.2.1, o_this.2.2.2.2.2.2.2.2.2.2.2.2.2.2.2.2.2.2.2.2.2.1, o_this.2.2.2.2.2.2.2.2.2.2.2.2.2.2.2.2.2.2.2.2.2.2.1, o_this.2.2.2.2.2.2.2.2.2.2.2.2.2.2.2.2.2.2.2.2.2.2.2.1, o_this.2.2.2.2.2.2.2.2.2.2.2.2.2.2.2.2.2.2.2.2.2.2.2.2))] H := hP
    have hD : va_D A [(a_this, oX8 a_this_bytes a_this_keys a_this_reg a_this_card a_this_filled a_this_taken a_this_line a_this_one a_this_two (o_this.1, o_this.2.1, 0, o_this.2.2.2.1, o_this.2.2.2.2.1, o_this.2.2.2.2.2.1, o_this.2.2.2.2.2.2.1, o_this.2.2.2.2.2.2.2.1, o_this.2.2.2.2.2.2.2.2.1, o_this.2.2.2.2.2.2.2.2.2.1, o_this.2.2.2.2.2.2.2.2.2.2.1, o_this.2.2.2.2.2.2.2.2.2.2.2.1, o_this.2.2.2.2.2.2.2.2.2.2.2.2.1, o_this.2.2.2.2.2.2.2.2.2.2.2.2.2.1, o_this.2.2.2.2.2.2.2.2.2.2.2.2.2.2.1, o_this.2.2.2.2.2.2.2.2.2.2.2.2.2.2.2.1, o_this.2.2.2.2.2.2.2.2.2.2.2.2.2.2.2.2.1, o_this.2.2.2.2.2.2.2.2.2.2.2.2.2.2.2.2.2.1, o_this.2.2.2.2.2.2.2.2.2.2.2.2.2.2.2.2.2.2.1, o_this.2.2.2.2.2.2.2.2.2.2.2.2.2.2.2.2.2.2.2.1, o_this.2.2.2.2.2.2.2.2.2.2.2.2.2.2.2.2.2.2.2.2.1, o_this.2.2.2.2.2.2.2.2.2.2.2.2.2.2.2.2.2.2.2.2.2.1, o_this.2.2.2.2.2.2.2.2.2.2.2.2.2.2.2.2.2.2.2.2.2.2.1, o_this.2.2.2.2.2.2.2.2.2.2.2.2.2.2.2.2.2.2.2.2.2.2.2.1, o_this.2.2.2.2.2.2.2.2.2.2.2.2.2.2.2.2.2.2.2.2.2.2.2.2))] := hD
    exact hQ (o_this.1, o_this.2.1, 0, o_this.2.2.2.1, o_this.2.2.2.2.1, o_this.2.2.2.2.2.1, o_this.2.2.2.2.2.2.1, o_this.2.2.2.2.2.2.2.1, o_this.2.2.2.2.2.2.2.2.1, o_this.2.2.2.2.2.2.2.2.2.1, o_this.2.2.2.2.2.2.2.2.2.2.1, o_this.2.2.2.2.2.2.2.2.2.2.2.1, o_this.2.2.2.2.2.2.2.2.2.2.2.2.1, o_this.2.2.2.2.2.2.2.2.2.2.2.2.2.1, o_this.2.2.2.2.2.2.2.2.2.2.2.2.2.2.1, o_this.2.2.2.2.2.2.2.2.2.2.2.2.2.2.2.1, o_this.2.2.2.2.2.2.2.2.2.2.2.2.2.2.2.2.1, o_this.2.2.2.2.2.2.2.2.2.2.2.2.2.2.2.2.2.1, o_this.2.2.2.2.2.2.2.2.2.2.2.2.2.2.2.2.2.2.1, o_this.2.2.2.2.2.2.2.2.2.2.2.2.2.2.2.2.2.2.2.1, o_this.2.2.2.2.2.2.2.2.2.2.2.2.2.2.2.2.2.2.2.2.1, o_this.2.2.2.2.2.2.2.2.2.2.2.2.2.2.2.2.2.2.2.2.2.1, o_this.2.2.2.2.2.2.2.2.2.2.2.2.2.2.2.2.2.2.2.2.2.2.1, o_this.2.2.2.2.2.2.2.2.2.2.2.2.2.2.2.2.2.2.2.2.2.2.2.1, o_this.2.2.2.2.2.2.2.2.2.2.2.2.2.2.2.2.2.2.2.2.2.2.2.2) _ _ _ _ dX8_compared_23 hF.symm hP hD hS
theorem cv_X8_compared : qV yX8_compared cX8_compared 3 none 2 := ⟨kc_X8_compared, kt_X8_compared, ks_X8_compared, kn_X8, by decide, by decide +kernel⟩
def f_X8_holds (o_this : Int32 × Int32 × Int32 × Int32 × Bool × Bool × Int32 × Int32 × Int32 × Int32 × Bool × Bool × Bool × Int32 × Int32 × Int32 × Int32 × Int32 × Int32 × Int32 × Int32 × Int32 × Int32 × Int32 × Int32) (p1 : Int32) : Bool := (if ((p1 >>> (((3 : Int32) - o_this.2.2.1) &&& 31)) &&& (1 : Int32)) = (1 : Int32) then true else false)
set_option linter.all false in
set_option maxHeartbeats 4000000 in
set_option maxRecDepth 100000 in
theorem c_X8_holds (l : Launch) (D : va_G) (a_this a_this_bytes a_this_keys a_this_reg a_this_card a_this_filled a_this_taken a_this_line a_this_one a_this_two : Nat) (o_this : Int32 × Int32 × Int32 × Int32 × Bool × Bool × Int32 × Int32 × Int32 × Int32 × Bool × Bool × Bool × Int32 × Int32 × Int32 × Int32 × Int32 × Int32 × Int32 × Int32 × Int32 × Int32 × Int32 × Int32) (p1 : Int32) : CtI l yX8_holds cX8_holds 2 (some .boolean) { frames := 0, cells := 0, slots := 0, locals := 0 } D [.ref a_this, .int p1] [(a_this, oX8 a_this_bytes a_this_keys a_this_reg a_this_card a_this_filled a_this_taken a_this_line a_this_one a_this_two o_this)] [] (fun (r : Int32) (u : Bool) => f_X8_holds o_this p1 = u ∧ r = bI u) (fun u => [(a_this, oX8 a_this_bytes a_this_keys a_this_reg a_this_card a_this_filled a_this_taken a_this_line a_this_one a_this_two o_this)]) := by
  refine CtI.ofZ (by decide) (Nat.le_of_ble_eq_true rfl) ?_
  intro p e s m below meth c A ls Q hE hP hD hS hl hQ
  obtain ⟨hx, hb, hml, hown, ht, hN, hK, hA⟩ := hE
  have hown : s.vm.findClass RX8 = some m.cls := hown
  have hl : lv_has ls 2 [(0, .ref a_this), (1, .int p1)] := hl
  obtain ⟨F, hF⟩ : ∃ F, f_X8_holds o_this p1 = F := ⟨_, rfl⟩
  rw [hF] at hQ
  unfold f_X8_holds at hF
  refine lv_iload_n hx hb dX8_holds_0 rfl (lv_at hl 1 rfl) ?_
  refine lv_iconst (v := 3) hx hb dX8_holds_1 (by decide) ?_
  refine lv_aload_n hx hb dX8_holds_2 rfl (lv_at hl 0 rfl) ?_
  refine gf_X8_52 (v := .int o_this.2.2.1) hx hb hown ht hK hP 0 rfl rfl dX8_holds_3 ?_
  refine lv_isub hx hb dX8_holds_6 ?_
  refine lv_ishr hx hb dX8_holds_7 ?_
  refine lv_iconst (v := 1) hx hb dX8_holds_8 (by decide) ?_
  refine lv_iand hx hb dX8_holds_9 ?_
  refine lv_iconst (v := 1) hx hb dX8_holds_10 (by decide) ?_
  refine lv_icmp_ne (tgt := 18) hx hb dX8_holds_11 (by decide) (fun c_1 => ?_) (fun c_1 => ?_)
  · skip
    rw [if_neg c_1] at hF
    refine lv_iconst (v := 0) hx hb dX8_holds_18 (by decide) ?_
    exact hQ false false _ _ _ _ dX8_holds_19 ⟨hF.symm, rfl⟩ hP hD hS
  · skip
    rw [if_pos c_1] at hF
    refine lv_iconst (v := 1) hx hb dX8_holds_14 (by decide) ?_
    refine lv_goto (tgt := 19) hx hb dX8_holds_15 (by decide) ?_
    exact hQ true true _ _ _ _ dX8_holds_19 ⟨hF.symm, rfl⟩ hP hD hS
theorem cv_X8_holds : qV yX8_holds cX8_holds 2 (some .boolean) 1 := ⟨kc_X8_holds, kt_X8_holds, ks_X8_holds, kn_X8, by decide, by decide +kernel⟩
def f_X8_go (o_this : Int32 × Int32 × Int32 × Int32 × Bool × Bool × Int32 × Int32 × Int32 × Int32 × Bool × Bool × Bool × Int32 × Int32 × Int32 × Int32 × Int32 × Int32 × Int32 × Int32 × Int32 × Int32 × Int32 × Int32) (p1 : Int32) : Int32 × Int32 × Int32 × Int32 × Bool × Bool × Int32 × Int32 × Int32 × Int32 × Bool × Bool × Bool × Int32 × Int32 × Int32 × Int32 × Int32 × Int32 × Int32 × Int32 × Int32 × Int32 × Int32 × Int32 := (q_let (p1 &&& (65535 : Int32)) fun y_1 => (o_this.1, o_this.2.1, o_this.2.2.1, y_1, o_this.2.2.2.2.1, o_this.2.2.2.2.2.1, o_this.2.2.2.2.2.2.1, o_this.2.2.2.2.2.2.2.1, o_this.2.2.2.2.2.2.2.2.1, o_this.2.2.2.2.2.2.2.2.2.1, o_this.2.2.2.2.2.2.2.2.2.2.1, o_this.2.2.2.2.2.2.2.2.2.2.2.1, o_this.2.2.2.2.2.2.2.2.2.2.2.2.1, o_this.2.2.2.2.2.2.2.2.2.2.2.2.2.1, o_this.2.2.2.2.2.2.2.2.2.2.2.2.2.2.1, o_this.2.2.2.2.2.2.2.2.2.2.2.2.2.2.2.1, o_this.2.2.2.2.2.2.2.2.2.2.2.2.2.2.2.2.1, o_this.2.2.2.2.2.2.2.2.2.2.2.2.2.2.2.2.2.1, o_this.2.2.2.2.2.2.2.2.2.2.2.2.2.2.2.2.2.2.1, o_this.2.2.2.2.2.2.2.2.2.2.2.2.2.2.2.2.2.2.2.1, o_this.2.2.2.2.2.2.2.2.2.2.2.2.2.2.2.2.2.2.2.2.1, o_this.2.2.2.2.2.2.2.2.2.2.2.2.2.2.2.2.2.2.2.2.2.1, o_this.2.2.2.2.2.2.2.2.2.2.2.2.2.2.2.2.2.2.2.2.2.2.1, o_this.2.2.2.2.2.2.2.2.2.2.2.2.2.2.2.2.2.2.2.2.2.2.2.1, o_this.2.2.2.2.2.2.2.2.2.2.2.2.2.2.2.2.2.2.2.2.2.2.2.2))
set_option linter.all false in
set_option maxHeartbeats 4000000 in
set_option maxRecDepth 100000 in
theorem c_X8_go (l : Launch) (D : va_G) (a_this a_this_bytes a_this_keys a_this_reg a_this_card a_this_filled a_this_taken a_this_line a_this_one a_this_two : Nat) (o_this : Int32 × Int32 × Int32 × Int32 × Bool × Bool × Int32 × Int32 × Int32 × Int32 × Bool × Bool × Bool × Int32 × Int32 × Int32 × Int32 × Int32 × Int32 × Int32 × Int32 × Int32 × Int32 × Int32 × Int32) (p1 : Int32) : CtV l yX8_go cX8_go 2 none { frames := 0, cells := 0, slots := 0, locals := 0 } D [.ref a_this, .int p1] [(a_this, oX8 a_this_bytes a_this_keys a_this_reg a_this_card a_this_filled a_this_taken a_this_line a_this_one a_this_two o_this)] [] (fun (u : Int32 × Int32 × Int32 × Int32 × Bool × Bool × Int32 × Int32 × Int32 × Int32 × Bool × Bool × Bool × Int32 × Int32 × Int32 × Int32 × Int32 × Int32 × Int32 × Int32 × Int32 × Int32 × Int32 × Int32) => f_X8_go o_this p1 = u) (fun u => [(a_this, oX8 a_this_bytes a_this_keys a_this_reg a_this_card a_this_filled a_this_taken a_this_line a_this_one a_this_two u)]) := by
  refine CtV.of (by decide) (Nat.le_of_ble_eq_true rfl) ?_
  intro p e s m below meth c A ls Q hE hP hD hS hl hQ
  obtain ⟨hx, hb, hml, hown, ht, hN, hK, hA⟩ := hE
  have hown : s.vm.findClass RX8 = some m.cls := hown
  have hl : lv_has ls 2 [(0, .ref a_this), (1, .int p1)] := hl
  obtain ⟨F, hF⟩ : ∃ F, f_X8_go o_this p1 = F := ⟨_, rfl⟩
  rw [hF] at hQ
  unfold f_X8_go at hF
  refine lv_aload_n hx hb dX8_go_0 rfl (lv_at hl 0 rfl) ?_
  refine lv_iload_n hx hb dX8_go_1 rfl (lv_at hl 1 rfl) ?_
  refine lv_ldc (v := 65535) hx hb hown (ht _ ki_X8_124) dX8_go_2 ?_
  refine lv_iand hx hb dX8_go_4 ?_
  refine lv_topi (fun y_1 hy => ?_)
  rw [q_let_of hy.symm] at hF
  clear hy
  refine pf_X8_59 (x := y_1) hx hb hown ht hK hP hD hS 0 rfl (Nat.le_of_ble_eq_true rfl) dX8_go_5 (fun H locs hP hD hS => ?_)
  have hP : va_P D vwCl [(a_this, oX8 a_this_bytes a_this_keys a_this_reg a_this_card a_this_filled a_this_taken a_this_line a_this_one a_this_two (o_this.1, o_this.2.1, o_this.2.2.1, y_1, o_this.2.2.2.2.1, o_this.2.2.2.2.2.1, o_this.2.2.2.2.2.2.1, o_this.2.2.2.2.2.2.2.1, o_this.2.2.2.2.2.2.2.2.1, o_this.2.2.2.2.2.2.2.2.2.1, o_this.2.2.2.2.2.2.2.2.2.2.1, o_this.2.2.2.2.2.2.2.2.2.2.2.1, o_this.2.2.2.2.2.2.2.2.2.2.2.2.1, o_this.2.2.2.2.2.2.2.2.2.2.2.2.2.1, o_this.2.2.2.2.2.2.2.2.2.2.2.2.2.2.1, o_this.2.2.2.2.2.2.2.2.2.2.2.2.2.2.2.1, o_this.2.2.2.2.2.2.2.2.2.2.2.2.2.2.2.2.1, o_this.2.2.2.2.2.2.2.2.2.2.2.2.2.2.2.2.2.1, o_this.2.2.2.2.2.2.2.2.2.2.2.2.2.2.2.2.2.2.1, o_this.2.2.2.2.2.2.2.2.2.2.2.2.2.2.2.2.2.2.2.1, o_this.2.2.2.2.2.2.2.2.2.2.2.2.2.2.2.2.2.2.2.2.1, o_this.2.2.2.2.2.2.2.2.2.2.2.2.2.2.2.2.2.2.2.2.2.1, o_this.2.2.2.2.2.2.2.2.2.2.2.2.2.2.2.2.2.2.2.2.2.2.1, o_this.2.2.2.2.2.2.2.2.2.2.2.2.2.2.2.2.2.2.2.2.2.2.2.1, o_this.2.2.2.2.2.2.2.2.2.2.2.2.2.2.2.2.2.2.2.2.2.2.2.2))] H := hP
  have hD : va_D A [(a_this, oX8 a_this_bytes a_this_keys a_this_reg a_this_card a_this_filled a_this_taken a_this_line a_this_one a_this_two (o_this.1, o_this.2.1, o_this.2.2.1, y_1, o_this.2.2.2.2.1, o_this.2.2.2.2.2.1, o_this.2.2.2.2.2.2.1, o_this.2.2.2.2.2.2.2.1, o_this.2.2.2.2.2.2.2.2.1, o_this.2.2.2.2.2.2.2.2.2.1, o_this.2.2.2.2.2.2.2.2.2.2.1, o_this.2.2.2.2.2.2.2.2.2.2.2.1, o_this.2.2.2.2.2.2.2.2.2.2.2.2.1, o_this.2.2.2.2.2.2.2.2.2.2.2.2.2.1, o_this.2.2.2.2.2.2.2.2.2.2.2.2.2.2.1, o_this.2.2.2.2.2.2.2.2.2.2.2.2.2.2.2.1, o_this.2.2.2.2.2.2.2.2.2.2.2.2.2.2.2.2.1, o_this.2.2.2.2.2.2.2.2.2.2.2.2.2.2.2.2.2.1, o_this.2.2.2.2.2.2.2.2.2.2.2.2.2.2.2.2.2.2.1, o_this.2.2.2.2.2.2.2.2.2.2.2.2.2.2.2.2.2.2.2.1, o_this.2.2.2.2.2.2.2.2.2.2.2.2.2.2.2.2.2.2.2.2.1, o_this.2.2.2.2.2.2.2.2.2.2.2.2.2.2.2.2.2.2.2.2.2.1, o_this.2.2.2.2.2.2.2.2.2.2.2.2.2.2.2.2.2.2.2.2.2.2.1, o_this.2.2.2.2.2.2.2.2.2.2.2.2.2.2.2.2.2.2.2.2.2.2.2.1, o_this.2.2.2.2.2.2.2.2.2.2.2.2.2.2.2.2.2.2.2.2.2.2.2.2))] := hD
  exact hQ (o_this.1, o_this.2.1, o_this.2.2.1, y_1, o_this.2.2.2.2.1, o_this.2.2.2.2.2.1, o_this.2.2.2.2.2.2.1, o_this.2.2.2.2.2.2.2.1, o_this.2.2.2.2.2.2.2.2.1, o_this.2.2.2.2.2.2.2.2.2.1, o_this.2.2.2.2.2.2.2.2.2.2.1, o_this.2.2.2.2.2.2.2.2.2.2.2.1, o_this.2.2.2.2.2.2.2.2.2.2.2.2.1, o_this.2.2.2.2.2.2.2.2.2.2.2.2.2.1, o_this.2.2.2.2.2.2.2.2.2.2.2.2.2.2.1, o_this.2.2.2.2.2.2.2.2.2.2.2.2.2.2.2.1, o_this.2.2.2.2.2.2.2.2.2.2.2.2.2.2.2.2.1, o_this.2.2.2.2.2.2.2.2.2.2.2.2.2.2.2.2.2.1, o_this.2.2.2.2.2.2.2.2.2.2.2.2.2.2.2.2.2.2.1, o_this.2.2.2.2.2.2.2.2.2.2.2.2.2.2.2.2.2.2.2.1, o_this.2.2.2.2.2.2.2.2.2.2.2.2.2.2.2.2.2.2.2.2.1, o_this.2.2.2.2.2.2.2.2.2.2.2.2.2.2.2.2.2.2.2.2.2.1, o_this.2.2.2.2.2.2.2.2.2.2.2.2.2.2.2.2.2.2.2.2.2.2.1, o_this.2.2.2.2.2.2.2.2.2.2.2.2.2.2.2.2.2.2.2.2.2.2.2.1, o_this.2.2.2.2.2.2.2.2.2.2.2.2.2.2.2.2.2.2.2.2.2.2.2.2) _ _ _ _ dX8_go_8 hF.symm hP hD hS
theorem cv_X8_go : qV yX8_go cX8_go 2 none 1 := ⟨kc_X8_go, kt_X8_go, ks_X8_go, kn_X8, by decide, by decide +kernel⟩
