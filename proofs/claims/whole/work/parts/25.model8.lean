
def f_X8_load_L32 (p1 : Int32) (p2 : Int64) (p3 : Int32) : Nat → (Nat → Int32) → Int32 → Bool × (Nat → Int32)
  | 0, r_this_bytes_L32, x5 => (false, r_this_bytes_L32)
  | fuel + 1, r_this_bytes_L32, x5 => (if p3 ≤ x5 then (true, r_this_bytes_L32) else f_X8_load_L32 p1 p2 p3 fuel (upd r_this_bytes_L32 (((p1 + p3) - (1 : Int32)) - x5).toNatClampNeg (((p2 >>> (((8 : Int32) * x5).toInt64 &&& 63)) &&& (255 : Int64)).toInt32)) (x5 + (1 : Int32)))
def s_X8_load_L32 (p1 : Int32) (p2 : Int64) (p3 : Int32) : Nat → (Nat → Int32) → Int32 → Prop
  | 0, _, _ => True
  | fuel + 1, r_this_bytes_L32, x5 => (if p3 ≤ x5 then True else (vp_in (((p1 + p3) - (1 : Int32)) - x5) 2048 ∧ s_X8_load_L32 p1 p2 p3 fuel (upd r_this_bytes_L32 (((p1 + p3) - (1 : Int32)) - x5).toNatClampNeg (((p2 >>> (((8 : Int32) * x5).toInt64 &&& 63)) &&& (255 : Int64)).toInt32)) (x5 + (1 : Int32))))
def f_X8_load (r_this_bytes : Nat → Int32) (p1 : Int32) (p2 : Int64) (p3 : Int32) : Bool × (Nat → Int32) := (if p3 < (1 : Int32) then (false, r_this_bytes) else (if (8 : Int32) < p3 then (false, r_this_bytes) else (if p1 < 0 then (false, r_this_bytes) else (if p1 ≤ ((2048 : Int32) - p3) then f_X8_load_L32 p1 p2 p3 (((p3 : Int32).toInt - (0 : Int32).toInt).toNat + 1) r_this_bytes 0 else (false, r_this_bytes)))))
def s_X8_load (r_this_bytes : Nat → Int32) (p1 : Int32) (p2 : Int64) (p3 : Int32) : Prop := (if p3 < (1 : Int32) then True else (if (8 : Int32) < p3 then True else (if p1 < 0 then True else (if p1 ≤ ((2048 : Int32) - p3) then s_X8_load_L32 p1 p2 p3 (((p3 : Int32).toInt - (0 : Int32).toInt).toNat + 1) r_this_bytes 0 else True))))
set_option linter.all false in
set_option maxHeartbeats 4000000 in
set_option maxRecDepth 100000 in
theorem c_X8_load (l : Launch) (D : va_G) (a_this a_this_bytes a_this_keys a_this_reg a_this_card a_this_filled a_this_taken a_this_line a_this_one a_this_two : Nat) (k_this_bytes : ClassId) (o_this : Int32 × Int32 × Int32 × Int32 × Bool × Bool × Int32 × Int32 × Int32 × Int32 × Bool × Bool × Bool × Int32 × Int32 × Int32 × Int32 × Int32 × Int32 × Int32 × Int32 × Int32 × Int32 × Int32 × Int32) (r_this_bytes : Nat → Int32) (p1 : Int32) (p2 : Int64) (p3 : Int32) (hs : s_X8_load r_this_bytes p1 p2 p3) : CtI l yX8_load cX8_load 6 (some .boolean) { frames := 0, cells := 0, slots := 0, locals := 0 } D [.ref a_this, .int p1, .long p2, .int p3] [(a_this, oX8 a_this_bytes a_this_keys a_this_reg a_this_card a_this_filled a_this_taken a_this_line a_this_one a_this_two o_this), (a_this_bytes, .inl (k_this_bytes, 2048, .inl r_this_bytes))] [(k_this_bytes, .int)] (fun (r : Int32) (u : Bool × (Nat → Int32)) => f_X8_load r_this_bytes p1 p2 p3 = u ∧ r = bI u.1) (fun u => [(a_this, oX8 a_this_bytes a_this_keys a_this_reg a_this_card a_this_filled a_this_taken a_this_line a_this_one a_this_two o_this), (a_this_bytes, .inl (k_this_bytes, 2048, .inl u.2))]) := by
  refine CtI.ofZ (by decide) (Nat.le_of_ble_eq_true rfl) ?_
  intro p e s m below meth c A ls Q hE hP hD hS hl hQ
  obtain ⟨hx, hb, hml, hown, ht, hN, hK, hA⟩ := hE
  have hown : s.vm.findClass RX8 = some m.cls := hown
  have hl : lv_has ls 6 [(0, .ref a_this), (1, .int p1), (2, .long p2), (4, .int p3)] := hl
  obtain ⟨F, hF⟩ : ∃ F, f_X8_load r_this_bytes p1 p2 p3 = F := ⟨_, rfl⟩
  rw [hF] at hQ
  unfold f_X8_load at hF
  unfold s_X8_load at hs
  refine lv_iload hx hb dX8_load_0 (lv_at hl 3 rfl) ?_
  refine lv_iconst (v := 1) hx hb dX8_load_2 (by decide) ?_
  refine lv_icmp_lt (tgt := 27) hx hb dX8_load_3 (by decide) (fun c_1 => ?_) (fun c_1 => ?_)
  · skip
    rw [if_pos c_1] at hF
    rw [if_pos c_1] at hs
    refine lv_iconst (v := 0) hx hb dX8_load_27 (by decide) ?_
    exact hQ false (false, r_this_bytes) _ _ _ _ dX8_load_28 ⟨hF.symm, rfl⟩ hP hD hS
  · skip
    rw [if_neg c_1] at hF
    rw [if_neg c_1] at hs
    refine lv_iload hx hb dX8_load_6 (lv_at hl 3 rfl) ?_
    refine lv_bipush (v := 8) hx hb dX8_load_8 (by decide) ?_
    refine lv_icmp_gt (tgt := 27) hx hb dX8_load_10 (by decide) (fun c_2 => ?_) (fun c_2 => ?_)
    · skip
      rw [if_pos c_2] at hF
      rw [if_pos c_2] at hs
      refine lv_iconst (v := 0) hx hb dX8_load_27 (by decide) ?_
      exact hQ false (false, r_this_bytes) _ _ _ _ dX8_load_28 ⟨hF.symm, rfl⟩ hP hD hS
    · skip
      rw [if_neg c_2] at hF
      rw [if_neg c_2] at hs
      refine lv_iload_n hx hb dX8_load_13 rfl (lv_at hl 1 rfl) ?_
      refine lv_if_lt (tgt := 27) hx hb dX8_load_14 (by decide) (fun c_3 => ?_) (fun c_3 => ?_)
      · skip
        rw [if_pos c_3] at hF
        rw [if_pos c_3] at hs
        refine lv_iconst (v := 0) hx hb dX8_load_27 (by decide) ?_
        exact hQ false (false, r_this_bytes) _ _ _ _ dX8_load_28 ⟨hF.symm, rfl⟩ hP hD hS
      · skip
        rw [if_neg c_3] at hF
        rw [if_neg c_3] at hs
        refine lv_iload_n hx hb dX8_load_17 rfl (lv_at hl 1 rfl) ?_
        refine lv_sipush (v := 2048) hx hb dX8_load_18 (by decide) ?_
        refine lv_iload hx hb dX8_load_21 (lv_at hl 3 rfl) ?_
        refine lv_isub hx hb dX8_load_23 ?_
        refine lv_icmp_le (tgt := 29) hx hb dX8_load_24 (by decide) (fun c_4 => ?_) (fun c_4 => ?_)
        · skip
          rw [if_pos c_4] at hF
          rw [if_pos c_4] at hs
          refine lv_iconst (v := 0) hx hb dX8_load_29 (by decide) ?_
          refine lv_istore (lv' := [(5, .int 0), (0, .ref a_this), (1, .int p1), (2, .long p2), (4, .int p3)]) hx hb dX8_load_30 hl (by decide) rfl (fun ls hl => ?_)
          have L32 : ∀ (fuel : Nat) (r_this_bytes_L32 : Nat → Int32) (x5 : Int32) (H : Heap) (locs : List Loc) (ls : Array Slot), ((p3 : Int32).toInt - (x5 : Int32).toInt).toNat < fuel → va_P D vwCl [(a_this, oX8 a_this_bytes a_this_keys a_this_reg a_this_card a_this_filled a_this_taken a_this_line a_this_one a_this_two o_this), (a_this_bytes, .inl (k_this_bytes, 2048, .inl r_this_bytes_L32))] H → va_D A [(a_this, oX8 a_this_bytes a_this_keys a_this_reg a_this_card a_this_filled a_this_taken a_this_line a_this_one a_this_two o_this), (a_this_bytes, .inl (k_this_bytes, 2048, .inl r_this_bytes_L32))] → va_S A s.heap H locs → lv_has ls 6 [(5, .int x5), (0, .ref a_this), (1, .int p1), (2, .long p2), (4, .int p3)] → f_X8_load_L32 p1 p2 p3 fuel r_this_bytes_L32 x5 = F → s_X8_load_L32 p1 p2 p3 fuel r_this_bytes_L32 x5 → W p l e ({ frames := 0, cells := 0, slots := 0, locals := 0 } : Room) s m ([.ref a_this, .int p1, .long p2, .int p3] : List Value).toArray below meth c H locs 0 0 Q (F0 m 32 ls []) := by
            intro fuel
            induction fuel with
            | zero => intro r_this_bytes_L32 x5 H locs ls hm; exact absurd hm (Nat.not_lt_zero _)
            | succ fuel ih =>
              intro r_this_bytes_L32 x5 H locs ls hm  hP hD hS hl hF hs
              rw [f_X8_load_L32] at hF
              rw [s_X8_load_L32] at hs
              skip
              refine lv_iload hx hb dX8_load_32 (lv_at hl 0 rfl) ?_
              refine lv_iload hx hb dX8_load_34 (lv_at hl 4 rfl) ?_
              refine lv_icmp_ge (tgt := 71) hx hb dX8_load_36 (by decide) (fun c_6 => ?_) (fun c_6 => ?_)
              · skip
                rw [if_pos c_6] at hF
                rw [if_pos c_6] at hs
                refine lv_iconst (v := 1) hx hb dX8_load_71 (by decide) ?_
                exact hQ true (true, r_this_bytes_L32) _ _ _ _ dX8_load_72 ⟨hF.symm, rfl⟩ hP hD hS
              · skip
                rw [if_neg c_6] at hF
                rw [if_neg c_6] at hs
                refine lv_aload_n hx hb dX8_load_39 rfl (lv_at hl 1 rfl) ?_
                refine gf_X8_7 (v := .ref a_this_bytes) hx hb hown ht hK hP 0 rfl rfl dX8_load_40 ?_
                refine lv_iload_n hx hb dX8_load_43 rfl (lv_at hl 2 rfl) ?_
                refine lv_iload hx hb dX8_load_44 (lv_at hl 4 rfl) ?_
                refine lv_iadd hx hb dX8_load_46 ?_
                refine lv_iconst (v := 1) hx hb dX8_load_47 (by decide) ?_
                refine lv_isub hx hb dX8_load_48 ?_
                refine lv_iload hx hb dX8_load_49 (lv_at hl 0 rfl) ?_
                refine lv_isub hx hb dX8_load_51 ?_
                refine lv_lload_n hx hb dX8_load_52 rfl (lv_at hl 3 rfl) ?_
                refine lv_bipush (v := 8) hx hb dX8_load_53 (by decide) ?_
                refine lv_iload hx hb dX8_load_55 (lv_at hl 0 rfl) ?_
                refine lv_imul hx hb dX8_load_57 ?_
                refine lv_lshr hx hb dX8_load_58 rfl ?_
                refine lv_ldc2 (v := 255) hx hb hown (ht _ kj_X8_260) dX8_load_59 ?_
                refine lv_land hx hb dX8_load_62 ?_
                refine lv_l2i hx hb dX8_load_63 rfl ?_
                obtain ⟨hi_7, hs⟩ := hs
                refine va_iast hx hb hK hP hD hS 1 0 rfl rfl hi_7 dX8_load_64 (fun H locs hP hD hS => ?_)
                have hP : va_P D vwCl [(a_this, oX8 a_this_bytes a_this_keys a_this_reg a_this_card a_this_filled a_this_taken a_this_line a_this_one a_this_two o_this), (a_this_bytes, .inl (k_this_bytes, 2048, .inl (upd r_this_bytes_L32 (((p1 + p3) - (1 : Int32)) - x5).toNatClampNeg (((p2 >>> (((8 : Int32) * x5).toInt64 &&& 63)) &&& (255 : Int64)).toInt32))))] H := hP
                have hD : va_D A [(a_this, oX8 a_this_bytes a_this_keys a_this_reg a_this_card a_this_filled a_this_taken a_this_line a_this_one a_this_two o_this), (a_this_bytes, .inl (k_this_bytes, 2048, .inl (upd r_this_bytes_L32 (((p1 + p3) - (1 : Int32)) - x5).toNatClampNeg (((p2 >>> (((8 : Int32) * x5).toInt64 &&& 63)) &&& (255 : Int64)).toInt32))))] := hD
                refine lv_iinc (v := (x5 + (1 : Int32))) (lv' := [(5, .int (x5 + (1 : Int32))), (0, .ref a_this), (1, .int p1), (2, .long p2), (4, .int p3)]) hx hb dX8_load_65 hl (k := 0) rfl rfl (by decide) rfl (fun ls hl => ?_)
                refine lv_goto (tgt := 32) hx hb dX8_load_68 (by decide) ?_
                exact ih (upd r_this_bytes_L32 (((p1 + p3) - (1 : Int32)) - x5).toNatClampNeg (((p2 >>> (((8 : Int32) * x5).toInt64 &&& 63)) &&& (255 : Int64)).toInt32)) (x5 + (1 : Int32)) _ _ _ (by first | exact q_up hm c_1 | exact q_up hm c_2 | exact q_up hm c_3 | exact q_up hm c_4 | exact q_up hm c_6)  hP hD hS (lv_sub hl [0, 1, 2, 3, 4] rfl) hF hs
          exact L32 (((p3 : Int32).toInt - (0 : Int32).toInt).toNat + 1) r_this_bytes 0 _ _ _ (Nat.lt_succ_self _)  hP hD hS (lv_sub hl [0, 1, 2, 3, 4] rfl) hF hs
        · skip
          rw [if_neg c_4] at hF
          rw [if_neg c_4] at hs
          refine lv_iconst (v := 0) hx hb dX8_load_27 (by decide) ?_
          exact hQ false (false, r_this_bytes) _ _ _ _ dX8_load_28 ⟨hF.symm, rfl⟩ hP hD hS
theorem cv_X8_load : qV yX8_load cX8_load 6 (some .boolean) 3 := ⟨kc_X8_load, kt_X8_load, ks_X8_load, kn_X8, by decide, by decide +kernel⟩
def f_X8_word_L4 (r_this_bytes : Nat → Int32) (p1 : Int32) : Nat → Int32 → Int32 → Int32
  | 0, x3, x2 => 0
  | fuel + 1, x3, x2 => (if (4 : Int32) ≤ x3 then x2 else (if p1 < (-x3) then f_X8_word_L4 r_this_bytes p1 fuel (x3 + (1 : Int32)) ((x2 <<< ((8 : Int32) &&& 31)) ||| (0 : Int32)) else (if ((2048 : Int32) - x3) ≤ p1 then f_X8_word_L4 r_this_bytes p1 fuel (x3 + (1 : Int32)) ((x2 <<< ((8 : Int32) &&& 31)) ||| (0 : Int32)) else f_X8_word_L4 r_this_bytes p1 fuel (x3 + (1 : Int32)) ((x2 <<< ((8 : Int32) &&& 31)) ||| (r_this_bytes (p1 + x3).toNatClampNeg)))))
def s_X8_word_L4 (r_this_bytes : Nat → Int32) (p1 : Int32) : Nat → Int32 → Int32 → Prop
  | 0, _, _ => True
  | fuel + 1, x3, x2 => (if (4 : Int32) ≤ x3 then True else (if p1 < (-x3) then s_X8_word_L4 r_this_bytes p1 fuel (x3 + (1 : Int32)) ((x2 <<< ((8 : Int32) &&& 31)) ||| (0 : Int32)) else (if ((2048 : Int32) - x3) ≤ p1 then s_X8_word_L4 r_this_bytes p1 fuel (x3 + (1 : Int32)) ((x2 <<< ((8 : Int32) &&& 31)) ||| (0 : Int32)) else (vp_in (p1 + x3) 2048 ∧ s_X8_word_L4 r_this_bytes p1 fuel (x3 + (1 : Int32)) ((x2 <<< ((8 : Int32) &&& 31)) ||| (r_this_bytes (p1 + x3).toNatClampNeg))))))
def f_X8_word (r_this_bytes : Nat → Int32) (p1 : Int32) : Int32 := f_X8_word_L4 r_this_bytes p1 (((4 : Int32).toInt - (0 : Int32).toInt).toNat + 1) 0 0
def s_X8_word (r_this_bytes : Nat → Int32) (p1 : Int32) : Prop := s_X8_word_L4 r_this_bytes p1 (((4 : Int32).toInt - (0 : Int32).toInt).toNat + 1) 0 0
set_option linter.all false in
set_option maxHeartbeats 4000000 in
set_option maxRecDepth 100000 in
theorem c_X8_word (l : Launch) (D : va_G) (a_this a_this_bytes a_this_keys a_this_reg a_this_card a_this_filled a_this_taken a_this_line a_this_one a_this_two : Nat) (k_this_bytes : ClassId) (o_this : Int32 × Int32 × Int32 × Int32 × Bool × Bool × Int32 × Int32 × Int32 × Int32 × Bool × Bool × Bool × Int32 × Int32 × Int32 × Int32 × Int32 × Int32 × Int32 × Int32 × Int32 × Int32 × Int32 × Int32) (r_this_bytes : Nat → Int32) (p1 : Int32) (hs : s_X8_word r_this_bytes p1) : CtI l yX8_word cX8_word 5 (some .int) { frames := 0, cells := 0, slots := 0, locals := 0 } D [.ref a_this, .int p1] [(a_this, oX8 a_this_bytes a_this_keys a_this_reg a_this_card a_this_filled a_this_taken a_this_line a_this_one a_this_two o_this), (a_this_bytes, .inl (k_this_bytes, 2048, .inl r_this_bytes))] [(k_this_bytes, .int)] (fun (r : Int32) (u : Int32) => f_X8_word r_this_bytes p1 = u ∧ r = u) (fun u => [(a_this, oX8 a_this_bytes a_this_keys a_this_reg a_this_card a_this_filled a_this_taken a_this_line a_this_one a_this_two o_this), (a_this_bytes, .inl (k_this_bytes, 2048, .inl r_this_bytes))]) := by
  refine CtI.of (by decide) (Nat.le_of_ble_eq_true rfl) ?_
  intro p e s m below meth c A ls Q hE hP hD hS hl hQ
  obtain ⟨hx, hb, hml, hown, ht, hN, hK, hA⟩ := hE
  have hown : s.vm.findClass RX8 = some m.cls := hown
  have hl : lv_has ls 5 [(0, .ref a_this), (1, .int p1)] := hl
  obtain ⟨F, hF⟩ : ∃ F, f_X8_word r_this_bytes p1 = F := ⟨_, rfl⟩
  rw [hF] at hQ
  unfold f_X8_word at hF
  unfold s_X8_word at hs
  refine lv_iconst (v := 0) hx hb dX8_word_0 (by decide) ?_
  refine lv_istore_n (lv' := [(2, .int 0), (0, .ref a_this), (1, .int p1)]) hx hb dX8_word_1 rfl hl (by decide) rfl (fun ls hl => ?_)
  refine lv_iconst (v := 0) hx hb dX8_word_2 (by decide) ?_
  refine lv_istore_n (lv' := [(3, .int 0), (2, .int 0), (0, .ref a_this), (1, .int p1)]) hx hb dX8_word_3 rfl hl (by decide) rfl (fun ls hl => ?_)
  have L4 : ∀ (fuel : Nat) (x3 : Int32) (x2 : Int32) (H : Heap) (locs : List Loc) (ls : Array Slot), ((4 : Int32).toInt - (x3 : Int32).toInt).toNat < fuel → va_P D vwCl [(a_this, oX8 a_this_bytes a_this_keys a_this_reg a_this_card a_this_filled a_this_taken a_this_line a_this_one a_this_two o_this), (a_this_bytes, .inl (k_this_bytes, 2048, .inl r_this_bytes))] H → va_D A [(a_this, oX8 a_this_bytes a_this_keys a_this_reg a_this_card a_this_filled a_this_taken a_this_line a_this_one a_this_two o_this), (a_this_bytes, .inl (k_this_bytes, 2048, .inl r_this_bytes))] → va_S A s.heap H locs → lv_has ls 5 [(3, .int x3), (2, .int x2), (0, .ref a_this), (1, .int p1)] → f_X8_word_L4 r_this_bytes p1 fuel x3 x2 = F → s_X8_word_L4 r_this_bytes p1 fuel x3 x2 → W p l e ({ frames := 0, cells := 0, slots := 0, locals := 0 } : Room) s m ([.ref a_this, .int p1] : List Value).toArray below meth c H locs 0 0 Q (F0 m 4 ls []) := by
    intro fuel
    induction fuel with
    | zero => intro x3 x2 H locs ls hm; exact absurd hm (Nat.not_lt_zero _)
    | succ fuel ih =>
      intro x3 x2 H locs ls hm  hP hD hS hl hF hs
      rw [f_X8_word_L4] at hF
      rw [s_X8_word_L4] at hs
      skip
      refine lv_iload_n hx hb dX8_word_4 rfl (lv_at hl 0 rfl) ?_
      refine lv_iconst (v := 4) hx hb dX8_word_5 (by decide) ?_
      refine lv_icmp_ge (tgt := 60) hx hb dX8_word_6 (by decide) (fun c_2 => ?_) (fun c_2 => ?_)
      · skip
        rw [if_pos c_2] at hF
        rw [if_pos c_2] at hs
        refine lv_iload_n hx hb dX8_word_60 rfl (lv_at hl 1 rfl) ?_
        exact hQ x2 x2 _ _ _ _ dX8_word_61 ⟨hF.symm, rfl⟩ hP hD hS
      · skip
        rw [if_neg c_2] at hF
        rw [if_neg c_2] at hs
        refine lv_iload_n hx hb dX8_word_9 rfl (lv_at hl 3 rfl) ?_
        refine lv_iload_n hx hb dX8_word_10 rfl (lv_at hl 0 rfl) ?_
        refine lv_ineg hx hb dX8_word_11 ?_
        refine lv_icmp_lt (tgt := 28) hx hb dX8_word_12 (by decide) (fun c_3 => ?_) (fun c_3 => ?_)
        · skip
          rw [if_pos c_3] at hF
          rw [if_pos c_3] at hs
          refine lv_iconst (v := 0) hx hb dX8_word_28 (by decide) ?_
          refine lv_istore (lv' := [(4, .int 0), (3, .int x3), (2, .int x2), (0, .ref a_this), (1, .int p1)]) hx hb dX8_word_29 hl (by decide) rfl (fun ls hl => ?_)
          refine lv_iload_n hx hb dX8_word_31 rfl (lv_at hl 2 rfl) ?_
          refine lv_bipush (v := 8) hx hb dX8_word_32 (by decide) ?_
          refine lv_ishl hx hb dX8_word_34 ?_
          refine lv_iload hx hb dX8_word_35 (lv_at hl 0 rfl) ?_
          refine lv_if_eq (tgt := 51) hx hb dX8_word_37 (by decide) (fun c_4 => ?_) (fun c_4 => ?_)
          · skip
            refine lv_iconst (v := 0) hx hb dX8_word_51 (by decide) ?_
            refine lv_ior hx hb dX8_word_52 ?_
            refine lv_istore_n (lv' := [(2, .int ((x2 <<< ((8 : Int32) &&& 31)) ||| (0 : Int32))), (4, .int 0), (3, .int x3), (0, .ref a_this), (1, .int p1)]) hx hb dX8_word_53 rfl hl (by decide) rfl (fun ls hl => ?_)
            refine lv_iinc (v := (x3 + (1 : Int32))) (lv' := [(3, .int (x3 + (1 : Int32))), (2, .int ((x2 <<< ((8 : Int32) &&& 31)) ||| (0 : Int32))), (4, .int 0), (0, .ref a_this), (1, .int p1)]) hx hb dX8_word_54 hl (k := 2) rfl rfl (by decide) rfl (fun ls hl => ?_)
            refine lv_goto (tgt := 4) hx hb dX8_word_57 (by decide) ?_
            exact ih (x3 + (1 : Int32)) ((x2 <<< ((8 : Int32) &&& 31)) ||| (0 : Int32)) _ _ _ (by first | exact q_up hm c_2 | exact q_up hm c_3)  hP hD hS (lv_sub hl [0, 1, 3, 4] rfl) hF hs
          · exact absurd c_4 (by decide)
        · skip
          rw [if_neg c_3] at hF
          rw [if_neg c_3] at hs
          refine lv_iload_n hx hb dX8_word_15 rfl (lv_at hl 3 rfl) ?_
          refine lv_sipush (v := 2048) hx hb dX8_word_16 (by decide) ?_
          refine lv_iload_n hx hb dX8_word_19 rfl (lv_at hl 0 rfl) ?_
          refine lv_isub hx hb dX8_word_20 ?_
          refine lv_icmp_ge (tgt := 28) hx hb dX8_word_21 (by decide) (fun c_5 => ?_) (fun c_5 => ?_)
          · skip
            rw [if_pos c_5] at hF
            rw [if_pos c_5] at hs
            refine lv_iconst (v := 0) hx hb dX8_word_28 (by decide) ?_
            refine lv_istore (lv' := [(4, .int 0), (3, .int x3), (2, .int x2), (0, .ref a_this), (1, .int p1)]) hx hb dX8_word_29 hl (by decide) rfl (fun ls hl => ?_)
            refine lv_iload_n hx hb dX8_word_31 rfl (lv_at hl 2 rfl) ?_
            refine lv_bipush (v := 8) hx hb dX8_word_32 (by decide) ?_
            refine lv_ishl hx hb dX8_word_34 ?_
            refine lv_iload hx hb dX8_word_35 (lv_at hl 0 rfl) ?_
            refine lv_if_eq (tgt := 51) hx hb dX8_word_37 (by decide) (fun c_6 => ?_) (fun c_6 => ?_)
            · skip
              refine lv_iconst (v := 0) hx hb dX8_word_51 (by decide) ?_
              refine lv_ior hx hb dX8_word_52 ?_
              refine lv_istore_n (lv' := [(2, .int ((x2 <<< ((8 : Int32) &&& 31)) ||| (0 : Int32))), (4, .int 0), (3, .int x3), (0, .ref a_this), (1, .int p1)]) hx hb dX8_word_53 rfl hl (by decide) rfl (fun ls hl => ?_)
              refine lv_iinc (v := (x3 + (1 : Int32))) (lv' := [(3, .int (x3 + (1 : Int32))), (2, .int ((x2 <<< ((8 : Int32) &&& 31)) ||| (0 : Int32))), (4, .int 0), (0, .ref a_this), (1, .int p1)]) hx hb dX8_word_54 hl (k := 2) rfl rfl (by decide) rfl (fun ls hl => ?_)
              refine lv_goto (tgt := 4) hx hb dX8_word_57 (by decide) ?_
              exact ih (x3 + (1 : Int32)) ((x2 <<< ((8 : Int32) &&& 31)) ||| (0 : Int32)) _ _ _ (by first | exact q_up hm c_2 | exact q_up hm c_3 | exact q_up hm c_5)  hP hD hS (lv_sub hl [0, 1, 3, 4] rfl) hF hs
            · exact absurd c_6 (by decide)
          · skip
            rw [if_neg c_5] at hF
            rw [if_neg c_5] at hs
            refine lv_iconst (v := 1) hx hb dX8_word_24 (by decide) ?_
            refine lv_goto (tgt := 29) hx hb dX8_word_25 (by decide) ?_
            refine lv_istore (lv' := [(4, .int 1), (3, .int x3), (2, .int x2), (0, .ref a_this), (1, .int p1)]) hx hb dX8_word_29 hl (by decide) rfl (fun ls hl => ?_)
            refine lv_iload_n hx hb dX8_word_31 rfl (lv_at hl 2 rfl) ?_
            refine lv_bipush (v := 8) hx hb dX8_word_32 (by decide) ?_
            refine lv_ishl hx hb dX8_word_34 ?_
            refine lv_iload hx hb dX8_word_35 (lv_at hl 0 rfl) ?_
            refine lv_if_eq (tgt := 51) hx hb dX8_word_37 (by decide) (fun c_7 => ?_) (fun c_7 => ?_)
            · exact absurd c_7 (by decide)
            · skip
              refine lv_aload_n hx hb dX8_word_40 rfl (lv_at hl 3 rfl) ?_
              refine gf_X8_7 (v := .ref a_this_bytes) hx hb hown ht hK hP 0 rfl rfl dX8_word_41 ?_
              refine lv_iload_n hx hb dX8_word_44 rfl (lv_at hl 4 rfl) ?_
              refine lv_iload_n hx hb dX8_word_45 rfl (lv_at hl 1 rfl) ?_
              refine lv_iadd hx hb dX8_word_46 ?_
              obtain ⟨hi_8, hs⟩ := hs
              refine va_iald hx hb hK hP 1 0 rfl rfl hi_8 dX8_word_47 ?_
              refine lv_goto (tgt := 52) hx hb dX8_word_48 (by decide) ?_
              refine lv_ior hx hb dX8_word_52 ?_
              refine lv_istore_n (lv' := [(2, .int ((x2 <<< ((8 : Int32) &&& 31)) ||| (r_this_bytes (p1 + x3).toNatClampNeg))), (4, .int 1), (3, .int x3), (0, .ref a_this), (1, .int p1)]) hx hb dX8_word_53 rfl hl (by decide) rfl (fun ls hl => ?_)
              refine lv_iinc (v := (x3 + (1 : Int32))) (lv' := [(3, .int (x3 + (1 : Int32))), (2, .int ((x2 <<< ((8 : Int32) &&& 31)) ||| (r_this_bytes (p1 + x3).toNatClampNeg))), (4, .int 1), (0, .ref a_this), (1, .int p1)]) hx hb dX8_word_54 hl (k := 2) rfl rfl (by decide) rfl (fun ls hl => ?_)
              refine lv_goto (tgt := 4) hx hb dX8_word_57 (by decide) ?_
              exact ih (x3 + (1 : Int32)) ((x2 <<< ((8 : Int32) &&& 31)) ||| (r_this_bytes (p1 + x3).toNatClampNeg)) _ _ _ (by first | exact q_up hm c_2 | exact q_up hm c_3 | exact q_up hm c_5)  hP hD hS (lv_sub hl [0, 1, 3, 4] rfl) hF hs
  exact L4 (((4 : Int32).toInt - (0 : Int32).toInt).toNat + 1) 0 0 _ _ _ (Nat.lt_succ_self _)  hP hD hS (lv_sub hl [0, 1, 2, 3] rfl) hF hs
theorem cv_X8_word : qV yX8_word cX8_word 5 (some .int) 1 := ⟨kc_X8_word, kt_X8_word, ks_X8_word, kn_X8, by decide, by decide +kernel⟩
def f_X8_set (o_this : Int32 × Int32 × Int32 × Int32 × Bool × Bool × Int32 × Int32 × Int32 × Int32 × Bool × Bool × Bool × Int32 × Int32 × Int32 × Int32 × Int32 × Int32 × Int32 × Int32 × Int32 × Int32 × Int32 × Int32) (r_this_keys : Nat → Int32) (r_this_reg : Nat → Int32) (p1 : Int32) (p2 : Int32) : Bool × (Int32 × Int32 × Int32 × Int32 × Bool × Bool × Int32 × Int32 × Int32 × Int32 × Bool × Bool × Bool × Int32 × Int32 × Int32 × Int32 × Int32 × Int32 × Int32 × Int32 × Int32 × Int32 × Int32 × Int32) × (Nat → Int32) × (Nat → Int32) := (if p1 < 0 then (false, o_this, r_this_keys, r_this_reg) else (if p1 ≤ (27 : Int32) then (if (16 : Int32) ≤ p1 then (if p1 ≤ (19 : Int32) then (if (18 : Int32) ≤ p1 then (if p1 = (18 : Int32) then (q_let (p2 &&& (31 : Int32)) fun y_9 => (if p1 = (19 : Int32) then (q_let (p2 &&& (3 : Int32)) fun y_11 => (true, (y_9, o_this.2.1, y_11, o_this.2.2.2.1, o_this.2.2.2.2.1, o_this.2.2.2.2.2.1, o_this.2.2.2.2.2.2.1, o_this.2.2.2.2.2.2.2.1, o_this.2.2.2.2.2.2.2.2.1, o_this.2.2.2.2.2.2.2.2.2.1, o_this.2.2.2.2.2.2.2.2.2.2.1, o_this.2.2.2.2.2.2.2.2.2.2.2.1, o_this.2.2.2.2.2.2.2.2.2.2.2.2.1, o_this.2.2.2.2.2.2.2.2.2.2.2.2.2.1, o_this.2.2.2.2.2.2.2.2.2.2.2.2.2.2.1, o_this.2.2.2.2.2.2.2.2.2.2.2.2.2.2.2.1, o_this.2.2.2.2.2.2.2.2.2.2.2.2.2.2.2.2.1, o_this.2.2.2.2.2.2.2.2.2.2.2.2.2.2.2.2.2.1, o_this.2.2.2.2.2.2.2.2.2.2.2.2.2.2.2.2.2.2.1, o_this.2.2.2.2.2.2.2.2.2.2.2.2.2.2.2.2.2.2.2.1, o_this.2.2.2.2.2.2.2.2.2.2.2.2.2.2.2.2.2.2.2.2.1, o_this.2.2.2.2.2.2.2.2.2.2.2.2.2.2.2.2.2.2.2.2.2.1, o_this.2.2.2.2.2.2.2.2.2.2.2.2.2.2.2.2.2.2.2.2.2.2.1, o_this.2.2.2.2.2.2.2.2.2.2.2.2.2.2.2.2.2.2.2.2.2.2.2.1, o_this.2.2.2.2.2.2.2.2.2.2.2.2.2.2.2.2.2.2.2.2.2.2.2.2), r_this_keys, r_this_reg)) else (true, (y_9, o_this.2.1, o_this.2.2.1, o_this.2.2.2.1, o_this.2.2.2.2.1, o_this.2.2.2.2.2.1, o_this.2.2.2.2.2.2.1, o_this.2.2.2.2.2.2.2.1, o_this.2.2.2.2.2.2.2.2.1, o_this.2.2.2.2.2.2.2.2.2.1, o_this.2.2.2.2.2.2.2.2.2.2.1, o_this.2.2.2.2.2.2.2.2.2.2.2.1, o_this.2.2.2.2.2.2.2.2.2.2.2.2.1, o_this.2.2.2.2.2.2.2.2.2.2.2.2.2.1, o_this.2.2.2.2.2.2.2.2.2.2.2.2.2.2.1, o_this.2.2.2.2.2.2.2.2.2.2.2.2.2.2.2.1, o_this.2.2.2.2.2.2.2.2.2.2.2.2.2.2.2.2.1, o_this.2.2.2.2.2.2.2.2.2.2.2.2.2.2.2.2.2.1, o_this.2.2.2.2.2.2.2.2.2.2.2.2.2.2.2.2.2.2.1, o_this.2.2.2.2.2.2.2.2.2.2.2.2.2.2.2.2.2.2.2.1, o_this.2.2.2.2.2.2.2.2.2.2.2.2.2.2.2.2.2.2.2.2.1, o_this.2.2.2.2.2.2.2.2.2.2.2.2.2.2.2.2.2.2.2.2.2.1, o_this.2.2.2.2.2.2.2.2.2.2.2.2.2.2.2.2.2.2.2.2.2.2.1, o_this.2.2.2.2.2.2.2.2.2.2.2.2.2.2.2.2.2.2.2.2.2.2.2.1, o_this.2.2.2.2.2.2.2.2.2.2.2.2.2.2.2.2.2.2.2.2.2.2.2.2), r_this_keys, r_this_reg))) else (if p1 = (19 : Int32) then (q_let (p2 &&& (3 : Int32)) fun y_8 => (true, (o_this.1, o_this.2.1, y_8, o_this.2.2.2.1, o_this.2.2.2.2.1, o_this.2.2.2.2.2.1, o_this.2.2.2.2.2.2.1, o_this.2.2.2.2.2.2.2.1, o_this.2.2.2.2.2.2.2.2.1, o_this.2.2.2.2.2.2.2.2.2.1, o_this.2.2.2.2.2.2.2.2.2.2.1, o_this.2.2.2.2.2.2.2.2.2.2.2.1, o_this.2.2.2.2.2.2.2.2.2.2.2.2.1, o_this.2.2.2.2.2.2.2.2.2.2.2.2.2.1, o_this.2.2.2.2.2.2.2.2.2.2.2.2.2.2.1, o_this.2.2.2.2.2.2.2.2.2.2.2.2.2.2.2.1, o_this.2.2.2.2.2.2.2.2.2.2.2.2.2.2.2.2.1, o_this.2.2.2.2.2.2.2.2.2.2.2.2.2.2.2.2.2.1, o_this.2.2.2.2.2.2.2.2.2.2.2.2.2.2.2.2.2.2.1, o_this.2.2.2.2.2.2.2.2.2.2.2.2.2.2.2.2.2.2.2.1, o_this.2.2.2.2.2.2.2.2.2.2.2.2.2.2.2.2.2.2.2.2.1, o_this.2.2.2.2.2.2.2.2.2.2.2.2.2.2.2.2.2.2.2.2.2.1, o_this.2.2.2.2.2.2.2.2.2.2.2.2.2.2.2.2.2.2.2.2.2.2.1, o_this.2.2.2.2.2.2.2.2.2.2.2.2.2.2.2.2.2.2.2.2.2.2.2.1, o_this.2.2.2.2.2.2.2.2.2.2.2.2.2.2.2.2.2.2.2.2.2.2.2.2), r_this_keys, r_this_reg)) else (true, o_this, r_this_keys, r_this_reg))) else (if p1 = (16 : Int32) then (q_let (p2 &&& (65535 : Int32)) fun y_15 => (if p1 = (17 : Int32) then (q_let (p2 &&& (15 : Int32)) fun y_17 => (true, (o_this.1, y_17, o_this.2.2.1, y_15, o_this.2.2.2.2.1, o_this.2.2.2.2.2.1, o_this.2.2.2.2.2.2.1, o_this.2.2.2.2.2.2.2.1, o_this.2.2.2.2.2.2.2.2.1, o_this.2.2.2.2.2.2.2.2.2.1, o_this.2.2.2.2.2.2.2.2.2.2.1, o_this.2.2.2.2.2.2.2.2.2.2.2.1, o_this.2.2.2.2.2.2.2.2.2.2.2.2.1, o_this.2.2.2.2.2.2.2.2.2.2.2.2.2.1, o_this.2.2.2.2.2.2.2.2.2.2.2.2.2.2.1, o_this.2.2.2.2.2.2.2.2.2.2.2.2.2.2.2.1, o_this.2.2.2.2.2.2.2.2.2.2.2.2.2.2.2.2.1, o_this.2.2.2.2.2.2.2.2.2.2.2.2.2.2.2.2.2.1, o_this.2.2.2.2.2.2.2.2.2.2.2.2.2.2.2.2.2.2.1, o_this.2.2.2.2.2.2.2.2.2.2.2.2.2.2.2.2.2.2.2.1, o_this.2.2.2.2.2.2.2.2.2.2.2.2.2.2.2.2.2.2.2.2.1, o_this.2.2.2.2.2.2.2.2.2.2.2.2.2.2.2.2.2.2.2.2.2.1, o_this.2.2.2.2.2.2.2.2.2.2.2.2.2.2.2.2.2.2.2.2.2.2.1, o_this.2.2.2.2.2.2.2.2.2.2.2.2.2.2.2.2.2.2.2.2.2.2.2.1, o_this.2.2.2.2.2.2.2.2.2.2.2.2.2.2.2.2.2.2.2.2.2.2.2.2), r_this_keys, r_this_reg)) else (true, (o_this.1, o_this.2.1, o_this.2.2.1, y_15, o_this.2.2.2.2.1, o_this.2.2.2.2.2.1, o_this.2.2.2.2.2.2.1, o_this.2.2.2.2.2.2.2.1, o_this.2.2.2.2.2.2.2.2.1, o_this.2.2.2.2.2.2.2.2.2.1, o_this.2.2.2.2.2.2.2.2.2.2.1, o_this.2.2.2.2.2.2.2.2.2.2.2.1, o_this.2.2.2.2.2.2.2.2.2.2.2.2.1, o_this.2.2.2.2.2.2.2.2.2.2.2.2.2.1, o_this.2.2.2.2.2.2.2.2.2.2.2.2.2.2.1, o_this.2.2.2.2.2.2.2.2.2.2.2.2.2.2.2.1, o_this.2.2.2.2.2.2.2.2.2.2.2.2.2.2.2.2.1, o_this.2.2.2.2.2.2.2.2.2.2.2.2.2.2.2.2.2.1, o_this.2.2.2.2.2.2.2.2.2.2.2.2.2.2.2.2.2.2.1, o_this.2.2.2.2.2.2.2.2.2.2.2.2.2.2.2.2.2.2.2.1, o_this.2.2.2.2.2.2.2.2.2.2.2.2.2.2.2.2.2.2.2.2.1, o_this.2.2.2.2.2.2.2.2.2.2.2.2.2.2.2.2.2.2.2.2.2.1, o_this.2.2.2.2.2.2.2.2.2.2.2.2.2.2.2.2.2.2.2.2.2.2.1, o_this.2.2.2.2.2.2.2.2.2.2.2.2.2.2.2.2.2.2.2.2.2.2.2.1, o_this.2.2.2.2.2.2.2.2.2.2.2.2.2.2.2.2.2.2.2.2.2.2.2.2), r_this_keys, r_this_reg))) else (if p1 = (17 : Int32) then (q_let (p2 &&& (15 : Int32)) fun y_14 => (true, (o_this.1, y_14, o_this.2.2.1, o_this.2.2.2.1, o_this.2.2.2.2.1, o_this.2.2.2.2.2.1, o_this.2.2.2.2.2.2.1, o_this.2.2.2.2.2.2.2.1, o_this.2.2.2.2.2.2.2.2.1, o_this.2.2.2.2.2.2.2.2.2.1, o_this.2.2.2.2.2.2.2.2.2.2.1, o_this.2.2.2.2.2.2.2.2.2.2.2.1, o_this.2.2.2.2.2.2.2.2.2.2.2.2.1, o_this.2.2.2.2.2.2.2.2.2.2.2.2.2.1, o_this.2.2.2.2.2.2.2.2.2.2.2.2.2.2.1, o_this.2.2.2.2.2.2.2.2.2.2.2.2.2.2.2.1, o_this.2.2.2.2.2.2.2.2.2.2.2.2.2.2.2.2.1, o_this.2.2.2.2.2.2.2.2.2.2.2.2.2.2.2.2.2.1, o_this.2.2.2.2.2.2.2.2.2.2.2.2.2.2.2.2.2.2.1, o_this.2.2.2.2.2.2.2.2.2.2.2.2.2.2.2.2.2.2.2.1, o_this.2.2.2.2.2.2.2.2.2.2.2.2.2.2.2.2.2.2.2.2.1, o_this.2.2.2.2.2.2.2.2.2.2.2.2.2.2.2.2.2.2.2.2.2.1, o_this.2.2.2.2.2.2.2.2.2.2.2.2.2.2.2.2.2.2.2.2.2.2.1, o_this.2.2.2.2.2.2.2.2.2.2.2.2.2.2.2.2.2.2.2.2.2.2.2.1, o_this.2.2.2.2.2.2.2.2.2.2.2.2.2.2.2.2.2.2.2.2.2.2.2.2), r_this_keys, r_this_reg)) else (true, o_this, r_this_keys, r_this_reg)))) else (true, o_this, (upd r_this_keys (p1 - (20 : Int32)).toNatClampNeg (p2 &&& (15 : Int32))), r_this_reg)) else (true, o_this, r_this_keys, (upd r_this_reg p1.toNatClampNeg p2))) else (false, o_this, r_this_keys, r_this_reg)))
def s_X8_set (p1 : Int32) : Prop := (if p1 < 0 then True else (if p1 ≤ (27 : Int32) then (if (16 : Int32) ≤ p1 then (if p1 ≤ (19 : Int32) then True else vp_in (p1 - (20 : Int32)) 8) else True) else True))
set_option linter.all false in
set_option maxHeartbeats 4000000 in
set_option maxRecDepth 100000 in
theorem c_X8_set (l : Launch) (D : va_G) (a_this a_this_keys a_this_reg a_this_bytes a_this_card a_this_filled a_this_taken a_this_line a_this_one a_this_two : Nat) (k_this_keys k_this_reg : ClassId) (o_this : Int32 × Int32 × Int32 × Int32 × Bool × Bool × Int32 × Int32 × Int32 × Int32 × Bool × Bool × Bool × Int32 × Int32 × Int32 × Int32 × Int32 × Int32 × Int32 × Int32 × Int32 × Int32 × Int32 × Int32) (r_this_keys : Nat → Int32) (r_this_reg : Nat → Int32) (p1 : Int32) (p2 : Int32) (hs : s_X8_set p1) : CtI l yX8_set cX8_set 3 (some .boolean) { frames := 0, cells := 0, slots := 0, locals := 0 } D [.ref a_this, .int p1, .int p2] [(a_this, oX8 a_this_bytes a_this_keys a_this_reg a_this_card a_this_filled a_this_taken a_this_line a_this_one a_this_two o_this), (a_this_keys, .inl (k_this_keys, 8, .inl r_this_keys)), (a_this_reg, .inl (k_this_reg, 16, .inl r_this_reg))] [(k_this_keys, .int), (k_this_reg, .int)] (fun (r : Int32) (u : Bool × (Int32 × Int32 × Int32 × Int32 × Bool × Bool × Int32 × Int32 × Int32 × Int32 × Bool × Bool × Bool × Int32 × Int32 × Int32 × Int32 × Int32 × Int32 × Int32 × Int32 × Int32 × Int32 × Int32 × Int32) × (Nat → Int32) × (Nat → Int32)) => f_X8_set o_this r_this_keys r_this_reg p1 p2 = u ∧ r = bI u.1) (fun u => [(a_this, oX8 a_this_bytes a_this_keys a_this_reg a_this_card a_this_filled a_this_taken a_this_line a_this_one a_this_two u.2.1), (a_this_keys, .inl (k_this_keys, 8, .inl u.2.2.1)), (a_this_reg, .inl (k_this_reg, 16, .inl u.2.2.2))]) := by
  refine CtI.ofZ (by decide) (Nat.le_of_ble_eq_true rfl) ?_
  intro p e s m below meth c A ls Q hE hP hD hS hl hQ
  obtain ⟨hx, hb, hml, hown, ht, hN, hK, hA⟩ := hE
  have hown : s.vm.findClass RX8 = some m.cls := hown
  have hl : lv_has ls 3 [(0, .ref a_this), (1, .int p1), (2, .int p2)] := hl
  obtain ⟨F, hF⟩ : ∃ F, f_X8_set o_this r_this_keys r_this_reg p1 p2 = F := ⟨_, rfl⟩
  rw [hF] at hQ
  unfold f_X8_set at hF
  unfold s_X8_set at hs
  refine lv_iload_n hx hb dX8_set_0 rfl (lv_at hl 1 rfl) ?_
  refine lv_if_lt (tgt := 10) hx hb dX8_set_1 (by decide) (fun c_1 => ?_) (fun c_1 => ?_)
  · skip
    rw [if_pos c_1] at hF
    rw [if_pos c_1] at hs
    refine lv_iconst (v := 0) hx hb dX8_set_10 (by decide) ?_
    exact hQ false (false, o_this, r_this_keys, r_this_reg) _ _ _ _ dX8_set_11 ⟨hF.symm, rfl⟩ hP hD hS
  · skip
    rw [if_neg c_1] at hF
    rw [if_neg c_1] at hs
    refine lv_iload_n hx hb dX8_set_4 rfl (lv_at hl 1 rfl) ?_
    refine lv_bipush (v := 27) hx hb dX8_set_5 (by decide) ?_
    refine lv_icmp_le (tgt := 12) hx hb dX8_set_7 (by decide) (fun c_2 => ?_) (fun c_2 => ?_)
    · skip
      rw [if_pos c_2] at hF
      rw [if_pos c_2] at hs
      refine lv_iload_n hx hb dX8_set_12 rfl (lv_at hl 1 rfl) ?_
      refine lv_bipush (v := 16) hx hb dX8_set_13 (by decide) ?_
      refine lv_icmp_ge (tgt := 28) hx hb dX8_set_15 (by decide) (fun c_3 => ?_) (fun c_3 => ?_)
      · skip
        rw [if_pos c_3] at hF
        rw [if_pos c_3] at hs
        refine lv_iload_n hx hb dX8_set_28 rfl (lv_at hl 1 rfl) ?_
        refine lv_bipush (v := 19) hx hb dX8_set_29 (by decide) ?_
        refine lv_icmp_le (tgt := 50) hx hb dX8_set_31 (by decide) (fun c_4 => ?_) (fun c_4 => ?_)
        · skip
          rw [if_pos c_4] at hF
          rw [if_pos c_4] at hs
          refine lv_iload_n hx hb dX8_set_50 rfl (lv_at hl 1 rfl) ?_
          refine lv_bipush (v := 18) hx hb dX8_set_51 (by decide) ?_
          refine lv_icmp_ge (tgt := 101) hx hb dX8_set_53 (by decide) (fun c_5 => ?_) (fun c_5 => ?_)
          · skip
            rw [if_pos c_5] at hF
            refine lv_aload_n hx hb dX8_set_101 rfl (lv_at hl 0 rfl) ?_
            refine lv_iload_n hx hb dX8_set_102 rfl (lv_at hl 1 rfl) ?_
            refine lv_bipush (v := 18) hx hb dX8_set_103 (by decide) ?_
            refine lv_icmp_ne (tgt := 115) hx hb dX8_set_105 (by decide) (fun c_6 => ?_) (fun c_6 => ?_)
            · skip
              rw [if_neg c_6] at hF
              refine lv_aload_n hx hb dX8_set_115 rfl (lv_at hl 0 rfl) ?_
              refine gf_X8_49 (v := .int o_this.1) hx hb hown ht hK hP 0 rfl rfl dX8_set_116 ?_
              refine pf_X8_49 (x := o_this.1) hx hb hown ht hK hP hD hS 0 rfl (Nat.le_of_ble_eq_true rfl) dX8_set_119 (fun H locs hP hD hS => ?_)
              have hP : va_P D vwCl [(a_this, oX8 a_this_bytes a_this_keys a_this_reg a_this_card a_this_filled a_this_taken a_this_line a_this_one a_this_two o_this), (a_this_keys, .inl (k_this_keys, 8, .inl r_this_keys)), (a_this_reg, .inl (k_this_reg, 16, .inl r_this_reg))] H := hP
              have hD : va_D A [(a_this, oX8 a_this_bytes a_this_keys a_this_reg a_this_card a_this_filled a_this_taken a_this_line a_this_one a_this_two o_this), (a_this_keys, .inl (k_this_keys, 8, .inl r_this_keys)), (a_this_reg, .inl (k_this_reg, 16, .inl r_this_reg))] := hD
              refine lv_aload_n hx hb dX8_set_122 rfl (lv_at hl 0 rfl) ?_
              refine lv_iload_n hx hb dX8_set_123 rfl (lv_at hl 1 rfl) ?_
              refine lv_bipush (v := 19) hx hb dX8_set_124 (by decide) ?_
              refine lv_icmp_ne (tgt := 135) hx hb dX8_set_126 (by decide) (fun c_7 => ?_) (fun c_7 => ?_)
              · skip
                rw [if_neg c_7] at hF
                refine lv_aload_n hx hb dX8_set_135 rfl (lv_at hl 0 rfl) ?_
                refine gf_X8_52 (v := .int o_this.2.2.1) hx hb hown ht hK hP 0 rfl rfl dX8_set_136 ?_
                refine pf_X8_52 (x := o_this.2.2.1) hx hb hown ht hK hP hD hS 0 rfl (Nat.le_of_ble_eq_true rfl) dX8_set_139 (fun H locs hP hD hS => ?_)
                have hP : va_P D vwCl [(a_this, oX8 a_this_bytes a_this_keys a_this_reg a_this_card a_this_filled a_this_taken a_this_line a_this_one a_this_two o_this), (a_this_keys, .inl (k_this_keys, 8, .inl r_this_keys)), (a_this_reg, .inl (k_this_reg, 16, .inl r_this_reg))] H := hP
                have hD : va_D A [(a_this, oX8 a_this_bytes a_this_keys a_this_reg a_this_card a_this_filled a_this_taken a_this_line a_this_one a_this_two o_this), (a_this_keys, .inl (k_this_keys, 8, .inl r_this_keys)), (a_this_reg, .inl (k_this_reg, 16, .inl r_this_reg))] := hD
                refine lv_iconst (v := 1) hx hb dX8_set_142 (by decide) ?_
                exact hQ true (true, o_this, r_this_keys, r_this_reg) _ _ _ _ dX8_set_143 ⟨hF.symm, rfl⟩ hP hD hS
              · skip
                rw [if_pos c_7] at hF
                refine lv_iload_n hx hb dX8_set_129 rfl (lv_at hl 2 rfl) ?_
                refine lv_iconst (v := 3) hx hb dX8_set_130 (by decide) ?_
                refine lv_iand hx hb dX8_set_131 ?_
                refine lv_goto (tgt := 139) hx hb dX8_set_132 (by decide) ?_
                refine lv_topi (fun y_8 hy => ?_)
                rw [q_let_of hy.symm] at hF
                clear hy
                refine pf_X8_52 (x := y_8) hx hb hown ht hK hP hD hS 0 rfl (Nat.le_of_ble_eq_true rfl) dX8_set_139 (fun H locs hP hD hS => ?_)
                have hP : va_P D vwCl [(a_this, oX8 a_this_bytes a_this_keys a_this_reg a_this_card a_this_filled a_this_taken a_this_line a_this_one a_this_two (o_this.1, o_this.2.1, y_8, o_this.2.2.2.1, o_this.2.2.2.2.1, o_this.2.2.2.2.2.1, o_this.2.2.2.2.2.2.1, o_this.2.2.2.2.2.2.2.1, o_this.2.2.2.2.2.2.2.2.1, o_this.2.2.2.2.2.2.2.2.2.1, o_this.2.2.2.2.2.2.2.2.2.2.1, o_this.2.2.2.2.2.2.2.2.2.2.2.1, o_this.2.2.2.2.2.2.2.2.2.2.2.2.1, o_this.2.2.2.2.2.2.2.2.2.2.2.2.2.1, o_this.2.2.2.2.2.2.2.2.2.2.2.2.2.2.1, o_this.2.2.2.2.2.2.2.2.2.2.2.2.2.2.2.1, o_this.2.2.2.2.2.2.2.2.2.2.2.2.2.2.2.2.1, o_this.2.2.2.2.2.2.2.2.2.2.2.2.2.2.2.2.2.1, o_this.2.2.2.2.2.2.2.2.2.2.2.2.2.2.2.2.2.2.1, o_this.2.2.2.2.2.2.2.2.2.2.2.2.2.2.2.2.2.2.2.1, o_this.2.2.2.2.2.2.2.2.2.2.2.2.2.2.2.2.2.2.2.2.1, o_this.2.2.2.2.2.2.2.2.2.2.2.2.2.2.2.2.2.2.2.2.2.1, o_this.2.2.2.2.2.2.2.2.2.2.2.2.2.2.2.2.2.2.2.2.2.2.1, o_this.2.2.2.2.2.2.2.2.2.2.2.2.2.2.2.2.2.2.2.2.2.2.2.1, o_this.2.2.2.2.2.2.2.2.2.2.2.2.2.2.2.2.2.2.2.2.2.2.2.2)), (a_this_keys, .inl (k_this_keys, 8, .inl r_this_keys)), (a_this_reg, .inl (k_this_reg, 16, .inl r_this_reg))] H := hP
                have hD : va_D A [(a_this, oX8 a_this_bytes a_this_keys a_this_reg a_this_card a_this_filled a_this_taken a_this_line a_this_one a_this_two (o_this.1, o_this.2.1, y_8, o_this.2.2.2.1, o_this.2.2.2.2.1, o_this.2.2.2.2.2.1, o_this.2.2.2.2.2.2.1, o_this.2.2.2.2.2.2.2.1, o_this.2.2.2.2.2.2.2.2.1, o_this.2.2.2.2.2.2.2.2.2.1, o_this.2.2.2.2.2.2.2.2.2.2.1, o_this.2.2.2.2.2.2.2.2.2.2.2.1, o_this.2.2.2.2.2.2.2.2.2.2.2.2.1, o_this.2.2.2.2.2.2.2.2.2.2.2.2.2.1, o_this.2.2.2.2.2.2.2.2.2.2.2.2.2.2.1, o_this.2.2.2.2.2.2.2.2.2.2.2.2.2.2.2.1, o_this.2.2.2.2.2.2.2.2.2.2.2.2.2.2.2.2.1, o_this.2.2.2.2.2.2.2.2.2.2.2.2.2.2.2.2.2.1, o_this.2.2.2.2.2.2.2.2.2.2.2.2.2.2.2.2.2.2.1, o_this.2.2.2.2.2.2.2.2.2.2.2.2.2.2.2.2.2.2.2.1, o_this.2.2.2.2.2.2.2.2.2.2.2.2.2.2.2.2.2.2.2.2.1, o_this.2.2.2.2.2.2.2.2.2.2.2.2.2.2.2.2.2.2.2.2.2.1, o_this.2.2.2.2.2.2.2.2.2.2.2.2.2.2.2.2.2.2.2.2.2.2.1, o_this.2.2.2.2.2.2.2.2.2.2.2.2.2.2.2.2.2.2.2.2.2.2.2.1, o_this.2.2.2.2.2.2.2.2.2.2.2.2.2.2.2.2.2.2.2.2.2.2.2.2)), (a_this_keys, .inl (k_this_keys, 8, .inl r_this_keys)), (a_this_reg, .inl (k_this_reg, 16, .inl r_this_reg))] := hD
                refine lv_iconst (v := 1) hx hb dX8_set_142 (by decide) ?_
                exact hQ true (true, (o_this.1, o_this.2.1, y_8, o_this.2.2.2.1, o_this.2.2.2.2.1, o_this.2.2.2.2.2.1, o_this.2.2.2.2.2.2.1, o_this.2.2.2.2.2.2.2.1, o_this.2.2.2.2.2.2.2.2.1, o_this.2.2.2.2.2.2.2.2.2.1, o_this.2.2.2.2.2.2.2.2.2.2.1, o_this.2.2.2.2.2.2.2.2.2.2.2.1, o_this.2.2.2.2.2.2.2.2.2.2.2.2.1, o_this.2.2.2.2.2.2.2.2.2.2.2.2.2.1, o_this.2.2.2.2.2.2.2.2.2.2.2.2.2.2.1, o_this.2.2.2.2.2.2.2.2.2.2.2.2.2.2.2.1, o_this.2.2.2.2.2.2.2.2.2.2.2.2.2.2.2.2.1, o_this.2.2.2.2.2.2.2.2.2.2.2.2.2.2.2.2.2.1, o_this.2.2.2.2.2.2.2.2.2.2.2.2.2.2.2.2.2.2.1, o_this.2.2.2.2.2.2.2.2.2.2.2.2.2.2.2.2.2.2.2.1, o_this.2.2.2.2.2.2.2.2.2.2.2.2.2.2.2.2.2.2.2.2.1, o_this.2.2.2.2.2.2.2.2.2.2.2.2.2.2.2.2.2.2.2.2.2.1, o_this.2.2.2.2.2.2.2.2.2.2.2.2.2.2.2.2.2.2.2.2.2.2.1, o_this.2.2.2.2.2.2.2.2.2.2.2.2.2.2.2.2.2.2.2.2.2.2.2.1, o_this.2.2.2.2.2.2.2.2.2.2.2.2.2.2.2.2.2.2.2.2.2.2.2.2), r_this_keys, r_this_reg) _ _ _ _ dX8_set_143 ⟨hF.symm, rfl⟩ hP hD hS
            · skip
              rw [if_pos c_6] at hF
              refine lv_iload_n hx hb dX8_set_108 rfl (lv_at hl 2 rfl) ?_
              refine lv_bipush (v := 31) hx hb dX8_set_109 (by decide) ?_
              refine lv_iand hx hb dX8_set_111 ?_
              refine lv_goto (tgt := 119) hx hb dX8_set_112 (by decide) ?_
              refine lv_topi (fun y_9 hy => ?_)
              rw [q_let_of hy.symm] at hF
              clear hy
              refine pf_X8_49 (x := y_9) hx hb hown ht hK hP hD hS 0 rfl (Nat.le_of_ble_eq_true rfl) dX8_set_119 (fun H locs hP hD hS => ?_)
              have hP : va_P D vwCl [(a_this, oX8 a_this_bytes a_this_keys a_this_reg a_this_card a_this_filled a_this_taken a_this_line a_this_one a_this_two (y_9, o_this.2.1, o_this.2.2.1, o_this.2.2.2.1, o_this.2.2.2.2.1, o_this.2.2.2.2.2.1, o_this.2.2.2.2.2.2.1, o_this.2.2.2.2.2.2.2.1, o_this.2.2.2.2.2.2.2.2.1, o_this.2.2.2.2.2.2.2.2.2.1, o_this.2.2.2.2.2.2.2.2.2.2.1, o_this.2.2.2.2.2.2.2.2.2.2.2.1, o_this.2.2.2.2.2.2.2.2.2.2.2.2.1, o_this.2.2.2.2.2.2.2.2.2.2.2.2.2.1, o_this.2.2.2.2.2.2.2.2.2.2.2.2.2.2.1, o_this.2.2.2.2.2.2.2.2.2.2.2.2.2.2.2.1, o_this.2.2.2.2.2.2.2.2.2.2.2.2.2.2.2.2.1, o_this.2.2.2.2.2.2.2.2.2.2.2.2.2.2.2.2.2.1, o_this.2.2.2.2.2.2.2.2.2.2.2.2.2.2.2.2.2.2.1, o_this.2.2.2.2.2.2.2.2.2.2.2.2.2.2.2.2.2.2.2.1, o_this.2.2.2.2.2.2.2.2.2.2.2.2.2.2.2.2.2.2.2.2.1, o_this.2.2.2.2.2.2.2.2.2.2.2.2.2.2.2.2.2.2.2.2.2.1, o_this.2.2.2.2.2.2.2.2.2.2.2.2.2.2.2.2.2.2.2.2.2.2.1, o_this.2.2.2.2.2.2.2.2.2.2.2.2.2.2.2.2.2.2.2.2.2.2.2.1, o_this.2.2.2.2.2.2.2.2.2.2.2.2.2.2.2.2.2.2.2.2.2.2.2.2)), (a_this_keys, .inl (k_this_keys, 8, .inl r_this_keys)), (a_this_reg, .inl (k_this_reg, 16, .inl r_this_reg))] H := hP
              have hD : va_D A [(a_this, oX8 a_this_bytes a_this_keys a_this_reg a_this_card a_this_filled a_this_taken a_this_line a_this_one a_this_two (y_9, o_this.2.1, o_this.2.2.1, o_this.2.2.2.1, o_this.2.2.2.2.1, o_this.2.2.2.2.2.1, o_this.2.2.2.2.2.2.1, o_this.2.2.2.2.2.2.2.1, o_this.2.2.2.2.2.2.2.2.1, o_this.2.2.2.2.2.2.2.2.2.1, o_this.2.2.2.2.2.2.2.2.2.2.1, o_this.2.2.2.2.2.2.2.2.2.2.2.1, o_this.2.2.2.2.2.2.2.2.2.2.2.2.1, o_this.2.2.2.2.2.2.2.2.2.2.2.2.2.1, o_this.2.2.2.2.2.2.2.2.2.2.2.2.2.2.1, o_this.2.2.2.2.2.2.2.2.2.2.2.2.2.2.2.1, o_this.2.2.2.2.2.2.2.2.2.2.2.2.2.2.2.2.1, o_this.2.2.2.2.2.2.2.2.2.2.2.2.2.2.2.2.2.1, o_this.2.2.2.2.2.2.2.2.2.2.2.2.2.2.2.2.2.2.1, o_this.2.2.2.2.2.2.2.2.2.2.2.2.2.2.2.2.2.2.2.1, o_this.2.2.2.2.2.2.2.2.2.2.2.2.2.2.2.2.2.2.2.2.1, o_this.2.2.2.2.2.2.2.2.2.2.2.2.2.2.2.2.2.2.2.2.2.1, o_this.2.2.2.2.2.2.2.2.2.2.2.2.2.2.2.2.2.2.2.2.2.2.1, o_this.2.2.2.2.2.2.2.2.2.2.2.2.2.2.2.2.2.2.2.2.2.2.2.1, o_this.2.2.2.2.2.2.2.2.2.2.2.2.2.2.2.2.2.2.2.2.2.2.2.2)), (a_this_keys, .inl (k_this_keys, 8, .inl r_this_keys)), (a_this_reg, .inl (k_this_reg, 16, .inl r_this_reg))] := hD
              refine lv_aload_n hx hb dX8_set_122 rfl (lv_at hl 0 rfl) ?_
              refine lv_iload_n hx hb dX8_set_123 rfl (lv_at hl 1 rfl) ?_
              refine lv_bipush (v := 19) hx hb dX8_set_124 (by decide) ?_
              refine lv_icmp_ne (tgt := 135) hx hb dX8_set_126 (by decide) (fun c_10 => ?_) (fun c_10 => ?_)
              · skip
                rw [if_neg c_10] at hF
                refine lv_aload_n hx hb dX8_set_135 rfl (lv_at hl 0 rfl) ?_
                refine gf_X8_52 (v := .int o_this.2.2.1) hx hb hown ht hK hP 0 rfl rfl dX8_set_136 ?_
                refine pf_X8_52 (x := o_this.2.2.1) hx hb hown ht hK hP hD hS 0 rfl (Nat.le_of_ble_eq_true rfl) dX8_set_139 (fun H locs hP hD hS => ?_)
                have hP : va_P D vwCl [(a_this, oX8 a_this_bytes a_this_keys a_this_reg a_this_card a_this_filled a_this_taken a_this_line a_this_one a_this_two (y_9, o_this.2.1, o_this.2.2.1, o_this.2.2.2.1, o_this.2.2.2.2.1, o_this.2.2.2.2.2.1, o_this.2.2.2.2.2.2.1, o_this.2.2.2.2.2.2.2.1, o_this.2.2.2.2.2.2.2.2.1, o_this.2.2.2.2.2.2.2.2.2.1, o_this.2.2.2.2.2.2.2.2.2.2.1, o_this.2.2.2.2.2.2.2.2.2.2.2.1, o_this.2.2.2.2.2.2.2.2.2.2.2.2.1, o_this.2.2.2.2.2.2.2.2.2.2.2.2.2.1, o_this.2.2.2.2.2.2.2.2.2.2.2.2.2.2.1, o_this.2.2.2.2.2.2.2.2.2.2.2.2.2.2.2.1, o_this.2.2.2.2.2.2.2.2.2.2.2.2.2.2.2.2.1, o_this.2.2.2.2.2.2.2.2.2.2.2.2.2.2.2.2.2.1, o_this.2.2.2.2.2.2.2.2.2.2.2.2.2.2.2.2.2.2.1, o_this.2.2.2.2.2.2.2.2.2.2.2.2.2.2.2.2.2.2.2.1, o_this.2.2.2.2.2.2.2.2.2.2.2.2.2.2.2.2.2.2.2.2.1, o_this.2.2.2.2.2.2.2.2.2.2.2.2.2.2.2.2.2.2.2.2.2.1, o_this.2.2.2.2.2.2.2.2.2.2.2.2.2.2.2.2.2.2.2.2.2.2.1, o_this.2.2.2.2.2.2.2.2.2.2.2.2.2.2.2.2.2.2.2.2.2.2.2.1, o_this.2.2.2.2.2.2.2.2.2.2.2.2.2.2.2.2.2.2.2.2.2.2.2.2)), (a_this_keys, .inl (k_this_keys, 8, .inl r_this_keys)), (a_this_reg, .inl (k_this_reg, 16, .inl r_this_reg))] H := hP
                have hD : va_D A [(a_this, oX8 a_this_bytes a_this_keys a_this_reg a_this_card a_this_filled a_this_taken a_this_line a_this_one a_this_two (y_9, o_this.2.1, o_this.2.2.1, o_this.2.2.2.1, o_this.2.2.2.2.1, o_this.2.2.2.2.2.1, o_this.2.2.2.2.2.2.1, o_this.2.2.2.2.2.2.2.1, o_this.2.2.2.2.2.2.2.2.1, o_this.2.2.2.2.2.2.2.2.2.1, o_this.2.2.2.2.2.2.2.2.2.2.1, o_this.2.2.2.2.2.2.2.2.2.2.2.1, o_this.2.2.2.2.2.2.2.2.2.2.2.2.1, o_this.2.2.2.2.2.2.2.2.2.2.2.2.2.1, o_this.2.2.2.2.2.2.2.2.2.2.2.2.2.2.1, o_this.2.2.2.2.2.2.2.2.2.2.2.2.2.2.2.1, o_this.2.2.2.2.2.2.2.2.2.2.2.2.2.2.2.2.1, o_this.2.2.2.2.2.2.2.2.2.2.2.2.2.2.2.2.2.1, o_this.2.2.2.2.2.2.2.2.2.2.2.2.2.2.2.2.2.2.1, o_this.2.2.2.2.2.2.2.2.2.2.2.2.2.2.2.2.2.2.2.1, o_this.2.2.2.2.2.2.2.2.2.2.2.2.2.2.2.2.2.2.2.2.1, o_this.2.2.2.2.2.2.2.2.2.2.2.2.2.2.2.2.2.2.2.2.2.1, o_this.2.2.2.2.2.2.2.2.2.2.2.2.2.2.2.2.2.2.2.2.2.2.1, o_this.2.2.2.2.2.2.2.2.2.2.2.2.2.2.2.2.2.2.2.2.2.2.2.1, o_this.2.2.2.2.2.2.2.2.2.2.2.2.2.2.2.2.2.2.2.2.2.2.2.2)), (a_this_keys, .inl (k_this_keys, 8, .inl r_this_keys)), (a_this_reg, .inl (k_this_reg, 16, .inl r_this_reg))] := hD
                refine lv_iconst (v := 1) hx hb dX8_set_142 (by decide) ?_
                exact hQ true (true, (y_9, o_this.2.1, o_this.2.2.1, o_this.2.2.2.1, o_this.2.2.2.2.1, o_this.2.2.2.2.2.1, o_this.2.2.2.2.2.2.1, o_this.2.2.2.2.2.2.2.1, o_this.2.2.2.2.2.2.2.2.1, o_this.2.2.2.2.2.2.2.2.2.1, o_this.2.2.2.2.2.2.2.2.2.2.1, o_this.2.2.2.2.2.2.2.2.2.2.2.1, o_this.2.2.2.2.2.2.2.2.2.2.2.2.1, o_this.2.2.2.2.2.2.2.2.2.2.2.2.2.1, o_this.2.2.2.2.2.2.2.2.2.2.2.2.2.2.1, o_this.2.2.2.2.2.2.2.2.2.2.2.2.2.2.2.1, o_this.2.2.2.2.2.2.2.2.2.2.2.2.2.2.2.2.1, o_this.2.2.2.2.2.2.2.2.2.2.2.2.2.2.2.2.2.1, o_this.2.2.2.2.2.2.2.2.2.2.2.2.2.2.2.2.2.2.1, o_this.2.2.2.2.2.2.2.2.2.2.2.2.2.2.2.2.2.2.2.1, o_this.2.2.2.2.2.2.2.2.2.2.2.2.2.2.2.2.2.2.2.2.1, o_this.2.2.2.2.2.2.2.2.2.2.2.2.2.2.2.2.2.2.2.2.2.1, o_this.2.2.2.2.2.2.2.2.2.2.2.2.2.2.2.2.2.2.2.2.2.2.1, o_this.2.2.2.2.2.2.2.2.2.2.2.2.2.2.2.2.2.2.2.2.2.2.2.1, o_this.2.2.2.2.2.2.2.2.2.2.2.2.2.2.2.2.2.2.2.2.2.2.2.2), r_this_keys, r_this_reg) _ _ _ _ dX8_set_143 ⟨hF.symm, rfl⟩ hP hD hS
              · skip
                rw [if_pos c_10] at hF
                refine lv_iload_n hx hb dX8_set_129 rfl (lv_at hl 2 rfl) ?_
                refine lv_iconst (v := 3) hx hb dX8_set_130 (by decide) ?_
                refine lv_iand hx hb dX8_set_131 ?_
                refine lv_goto (tgt := 139) hx hb dX8_set_132 (by decide) ?_
                refine lv_topi (fun y_11 hy => ?_)
                rw [q_let_of hy.symm] at hF
                clear hy
                refine pf_X8_52 (x := y_11) hx hb hown ht hK hP hD hS 0 rfl (Nat.le_of_ble_eq_true rfl) dX8_set_139 (fun H locs hP hD hS => ?_)
                have hP : va_P D vwCl [(a_this, oX8 a_this_bytes a_this_keys a_this_reg a_this_card a_this_filled a_this_taken a_this_line a_this_one a_this_two (y_9, o_this.2.1, y_11, o_this.2.2.2.1, o_this.2.2.2.2.1, o_this.2.2.2.2.2.1, o_this.2.2.2.2.2.2.1, o_this.2.2.2.2.2.2.2.1, o_this.2.2.2.2.2.2.2.2.1, o_this.2.2.2.2.2.2.2.2.2.1, o_this.2.2.2.2.2.2.2.2.2.2.1, o_this.2.2.2.2.2.2.2.2.2.2.2.1, o_this.2.2.2.2.2.2.2.2.2.2.2.2.1, o_this.2.2.2.2.2.2.2.2.2.2.2.2.2.1, o_this.2.2.2.2.2.2.2.2.2.2.2.2.2.2.1, o_this.2.2.2.2.2.2.2.2.2.2.2.2.2.2.2.1, o_this.2.2.2.2.2.2.2.2.2.2.2.2.2.2.2.2.1, o_this.2.2.2.2.2.2.2.2.2.2.2.2.2.2.2.2.2.1, o_this.2.2.2.2.2.2.2.2.2.2.2.2.2.2.2.2.2.2.1, o_this.2.2.2.2.2.2.2.2.2.2.2.2.2.2.2.2.2.2.2.1, o_this.2.2.2.2.2.2.2.2.2.2.2.2.2.2.2.2.2.2.2.2.1, o_this.2.2.2.2.2.2.2.2.2.2.2.2.2.2.2.2.2.2.2.2.2.1, o_this.2.2.2.2.2.2.2.2.2.2.2.2.2.2.2.2.2.2.2.2.2.2.1, o_this.2.2.2.2.2.2.2.2.2.2.2.2.2.2.2.2.2.2.2.2.2.2.2.1, o_this.2.2.2.2.2.2.2.2.2.2.2.2.2.2.2.2.2.2.2.2.2.2.2.2)), (a_this_keys, .inl (k_this_keys, 8, .inl r_this_keys)), (a_this_reg, .inl (k_this_reg, 16, .inl r_this_reg))] H := hP
                have hD : va_D A [(a_this, oX8 a_this_bytes a_this_keys a_this_reg a_this_card a_this_filled a_this_taken a_this_line a_this_one a_this_two (y_9, o_this.2.1, y_11, o_this.2.2.2.1, o_this.2.2.2.2.1, o_this.2.2.2.2.2.1, o_this.2.2.2.2.2.2.1, o_this.2.2.2.2.2.2.2.1, o_this.2.2.2.2.2.2.2.2.1, o_this.2.2.2.2.2.2.2.2.2.1, o_this.2.2.2.2.2.2.2.2.2.2.1, o_this.2.2.2.2.2.2.2.2.2.2.2.1, o_this.2.2.2.2.2.2.2.2.2.2.2.2.1, o_this.2.2.2.2.2.2.2.2.2.2.2.2.2.1, o_this.2.2.2.2.2.2.2.2.2.2.2.2.2.2.1, o_this.2.2.2.2.2.2.2.2.2.2.2.2.2.2.2.1, o_this.2.2.2.2.2.2.2.2.2.2.2.2.2.2.2.2.1, o_this.2.2.2.2.2.2.2.2.2.2.2.2.2.2.2.2.2.1, o_this.2.2.2.2.2.2.2.2.2.2.2.2.2.2.2.2.2.2.1, o_this.2.2.2.2.2.2.2.2.2.2.2.2.2.2.2.2.2.2.2.1, o_this.2.2.2.2.2.2.2.2.2.2.2.2.2.2.2.2.2.2.2.2.1, o_this.2.2.2.2.2.2.2.2.2.2.2.2.2.2.2.2.2.2.2.2.2.1, o_this.2.2.2.2.2.2.2.2.2.2.2.2.2.2.2.2.2.2.2.2.2.2.1, o_this.2.2.2.2.2.2.2.2.2.2.2.2.2.2.2.2.2.2.2.2.2.2.2.1, o_this.2.2.2.2.2.2.2.2.2.2.2.2.2.2.2.2.2.2.2.2.2.2.2.2)), (a_this_keys, .inl (k_this_keys, 8, .inl r_this_keys)), (a_this_reg, .inl (k_this_reg, 16, .inl r_this_reg))] := hD
                refine lv_iconst (v := 1) hx hb dX8_set_142 (by decide) ?_
                exact hQ true (true, (y_9, o_this.2.1, y_11, o_this.2.2.2.1, o_this.2.2.2.2.1, o_this.2.2.2.2.2.1, o_this.2.2.2.2.2.2.1, o_this.2.2.2.2.2.2.2.1, o_this.2.2.2.2.2.2.2.2.1, o_this.2.2.2.2.2.2.2.2.2.1, o_this.2.2.2.2.2.2.2.2.2.2.1, o_this.2.2.2.2.2.2.2.2.2.2.2.1, o_this.2.2.2.2.2.2.2.2.2.2.2.2.1, o_this.2.2.2.2.2.2.2.2.2.2.2.2.2.1, o_this.2.2.2.2.2.2.2.2.2.2.2.2.2.2.1, o_this.2.2.2.2.2.2.2.2.2.2.2.2.2.2.2.1, o_this.2.2.2.2.2.2.2.2.2.2.2.2.2.2.2.2.1, o_this.2.2.2.2.2.2.2.2.2.2.2.2.2.2.2.2.2.1, o_this.2.2.2.2.2.2.2.2.2.2.2.2.2.2.2.2.2.2.1, o_this.2.2.2.2.2.2.2.2.2.2.2.2.2.2.2.2.2.2.2.1, o_this.2.2.2.2.2.2.2.2.2.2.2.2.2.2.2.2.2.2.2.2.1, o_this.2.2.2.2.2.2.2.2.2.2.2.2.2.2.2.2.2.2.2.2.2.1, o_this.2.2.2.2.2.2.2.2.2.2.2.2.2.2.2.2.2.2.2.2.2.2.1, o_this.2.2.2.2.2.2.2.2.2.2.2.2.2.2.2.2.2.2.2.2.2.2.2.1, o_this.2.2.2.2.2.2.2.2.2.2.2.2.2.2.2.2.2.2.2.2.2.2.2.2), r_this_keys, r_this_reg) _ _ _ _ dX8_set_143 ⟨hF.symm, rfl⟩ hP hD hS
          · skip
            rw [if_neg c_5] at hF
            refine lv_aload_n hx hb dX8_set_56 rfl (lv_at hl 0 rfl) ?_
            refine lv_iload_n hx hb dX8_set_57 rfl (lv_at hl 1 rfl) ?_
            refine lv_bipush (v := 16) hx hb dX8_set_58 (by decide) ?_
            refine lv_icmp_ne (tgt := 70) hx hb dX8_set_60 (by decide) (fun c_12 => ?_) (fun c_12 => ?_)
            · skip
              rw [if_neg c_12] at hF
              refine lv_aload_n hx hb dX8_set_70 rfl (lv_at hl 0 rfl) ?_
              refine gf_X8_59 (v := .int o_this.2.2.2.1) hx hb hown ht hK hP 0 rfl rfl dX8_set_71 ?_
              refine pf_X8_59 (x := o_this.2.2.2.1) hx hb hown ht hK hP hD hS 0 rfl (Nat.le_of_ble_eq_true rfl) dX8_set_74 (fun H locs hP hD hS => ?_)
              have hP : va_P D vwCl [(a_this, oX8 a_this_bytes a_this_keys a_this_reg a_this_card a_this_filled a_this_taken a_this_line a_this_one a_this_two o_this), (a_this_keys, .inl (k_this_keys, 8, .inl r_this_keys)), (a_this_reg, .inl (k_this_reg, 16, .inl r_this_reg))] H := hP
              have hD : va_D A [(a_this, oX8 a_this_bytes a_this_keys a_this_reg a_this_card a_this_filled a_this_taken a_this_line a_this_one a_this_two o_this), (a_this_keys, .inl (k_this_keys, 8, .inl r_this_keys)), (a_this_reg, .inl (k_this_reg, 16, .inl r_this_reg))] := hD
              refine lv_aload_n hx hb dX8_set_77 rfl (lv_at hl 0 rfl) ?_
              refine lv_iload_n hx hb dX8_set_78 rfl (lv_at hl 1 rfl) ?_
              refine lv_bipush (v := 17) hx hb dX8_set_79 (by decide) ?_
              refine lv_icmp_ne (tgt := 91) hx hb dX8_set_81 (by decide) (fun c_13 => ?_) (fun c_13 => ?_)
              · skip
                rw [if_neg c_13] at hF
                refine lv_aload_n hx hb dX8_set_91 rfl (lv_at hl 0 rfl) ?_
                refine gf_X8_46 (v := .int o_this.2.1) hx hb hown ht hK hP 0 rfl rfl dX8_set_92 ?_
                refine pf_X8_46 (x := o_this.2.1) hx hb hown ht hK hP hD hS 0 rfl (Nat.le_of_ble_eq_true rfl) dX8_set_95 (fun H locs hP hD hS => ?_)
                have hP : va_P D vwCl [(a_this, oX8 a_this_bytes a_this_keys a_this_reg a_this_card a_this_filled a_this_taken a_this_line a_this_one a_this_two o_this), (a_this_keys, .inl (k_this_keys, 8, .inl r_this_keys)), (a_this_reg, .inl (k_this_reg, 16, .inl r_this_reg))] H := hP
                have hD : va_D A [(a_this, oX8 a_this_bytes a_this_keys a_this_reg a_this_card a_this_filled a_this_taken a_this_line a_this_one a_this_two o_this), (a_this_keys, .inl (k_this_keys, 8, .inl r_this_keys)), (a_this_reg, .inl (k_this_reg, 16, .inl r_this_reg))] := hD
                refine lv_goto (tgt := 142) hx hb dX8_set_98 (by decide) ?_
                refine lv_iconst (v := 1) hx hb dX8_set_142 (by decide) ?_
                exact hQ true (true, o_this, r_this_keys, r_this_reg) _ _ _ _ dX8_set_143 ⟨hF.symm, rfl⟩ hP hD hS
              · skip
                rw [if_pos c_13] at hF
                refine lv_iload_n hx hb dX8_set_84 rfl (lv_at hl 2 rfl) ?_
                refine lv_bipush (v := 15) hx hb dX8_set_85 (by decide) ?_
                refine lv_iand hx hb dX8_set_87 ?_
                refine lv_goto (tgt := 95) hx hb dX8_set_88 (by decide) ?_
                refine lv_topi (fun y_14 hy => ?_)
                rw [q_let_of hy.symm] at hF
                clear hy
                refine pf_X8_46 (x := y_14) hx hb hown ht hK hP hD hS 0 rfl (Nat.le_of_ble_eq_true rfl) dX8_set_95 (fun H locs hP hD hS => ?_)
                have hP : va_P D vwCl [(a_this, oX8 a_this_bytes a_this_keys a_this_reg a_this_card a_this_filled a_this_taken a_this_line a_this_one a_this_two (o_this.1, y_14, o_this.2.2.1, o_this.2.2.2.1, o_this.2.2.2.2.1, o_this.2.2.2.2.2.1, o_this.2.2.2.2.2.2.1, o_this.2.2.2.2.2.2.2.1, o_this.2.2.2.2.2.2.2.2.1, o_this.2.2.2.2.2.2.2.2.2.1, o_this.2.2.2.2.2.2.2.2.2.2.1, o_this.2.2.2.2.2.2.2.2.2.2.2.1, o_this.2.2.2.2.2.2.2.2.2.2.2.2.1, o_this.2.2.2.2.2.2.2.2.2.2.2.2.2.1, o_this.2.2.2.2.2.2.2.2.2.2.2.2.2.2.1, o_this.2.2.2.2.2.2.2.2.2.2.2.2.2.2.2.1, o_this.2.2.2.2.2.2.2.2.2.2.2.2.2.2.2.2.1, o_this.2.2.2.2.2.2.2.2.2.2.2.2.2.2.2.2.2.1, o_this.2.2.2.2.2.2.2.2.2.2.2.2.2.2.2.2.2.2.1, o_this.2.2.2.2.2.2.2.2.2.2.2.2.2.2.2.2.2.2.2.1, o_this.2.2.2.2.2.2.2.2.2.2.2.2.2.2.2.2.2.2.2.2.1, o_this.2.2.2.2.2.2.2.2.2.2.2.2.2.2.2.2.2.2.2.2.2.1, o_this.2.2.2.2.2.2.2.2.2.2.2.2.2.2.2.2.2.2.2.2.2.2.1, o_this.2.2.2.2.2.2.2.2.2.2.2.2.2.2.2.2.2.2.2.2.2.2.2.1, o_this.2.2.2.2.2.2.2.2.2.2.2.2.2.2.2.2.2.2.2.2.2.2.2.2)), (a_this_keys, .inl (k_this_keys, 8, .inl r_this_keys)), (a_this_reg, .inl (k_this_reg, 16, .inl r_this_reg))] H := hP
                have hD : va_D A [(a_this, oX8 a_this_bytes a_this_keys a_this_reg a_this_card a_this_filled a_this_taken a_this_line a_this_one a_this_two (o_this.1, y_14, o_this.2.2.1, o_this.2.2.2.1, o_this.2.2.2.2.1, o_this.2.2.2.2.2.1, o_this.2.2.2.2.2.2.1, o_this.2.2.2.2.2.2.2.1, o_this.2.2.2.2.2.2.2.2.1, o_this.2.2.2.2.2.2.2.2.2.1, o_this.2.2.2.2.2.2.2.2.2.2.1, o_this.2.2.2.2.2.2.2.2.2.2.2.1, o_this.2.2.2.2.2.2.2.2.2.2.2.2.1, o_this.2.2.2.2.2.2.2.2.2.2.2.2.2.1, o_this.2.2.2.2.2.2.2.2.2.2.2.2.2.2.1, o_this.2.2.2.2.2.2.2.2.2.2.2.2.2.2.2.1, o_this.2.2.2.2.2.2.2.2.2.2.2.2.2.2.2.2.1, o_this.2.2.2.2.2.2.2.2.2.2.2.2.2.2.2.2.2.1, o_this.2.2.2.2.2.2.2.2.2.2.2.2.2.2.2.2.2.2.1, o_this.2.2.2.2.2.2.2.2.2.2.2.2.2.2.2.2.2.2.2.1, o_this.2.2.2.2.2.2.2.2.2.2.2.2.2.2.2.2.2.2.2.2.1, o_this.2.2.2.2.2.2.2.2.2.2.2.2.2.2.2.2.2.2.2.2.2.1, o_this.2.2.2.2.2.2.2.2.2.2.2.2.2.2.2.2.2.2.2.2.2.2.1, o_this.2.2.2.2.2.2.2.2.2.2.2.2.2.2.2.2.2.2.2.2.2.2.2.1, o_this.2.2.2.2.2.2.2.2.2.2.2.2.2.2.2.2.2.2.2.2.2.2.2.2)), (a_this_keys, .inl (k_this_keys, 8, .inl r_this_keys)), (a_this_reg, .inl (k_this_reg, 16, .inl r_this_reg))] := hD
                refine lv_goto (tgt := 142) hx hb dX8_set_98 (by decide) ?_
                refine lv_iconst (v := 1) hx hb dX8_set_142 (by decide) ?_
                exact hQ true (true, (o_this.1, y_14, o_this.2.2.1, o_this.2.2.2.1, o_this.2.2.2.2.1, o_this.2.2.2.2.2.1, o_this.2.2.2.2.2.2.1, o_this.2.2.2.2.2.2.2.1, o_this.2.2.2.2.2.2.2.2.1, o_this.2.2.2.2.2.2.2.2.2.1, o_this.2.2.2.2.2.2.2.2.2.2.1, o_this.2.2.2.2.2.2.2.2.2.2.2.1, o_this.2.2.2.2.2.2.2.2.2.2.2.2.1, o_this.2.2.2.2.2.2.2.2.2.2.2.2.2.1, o_this.2.2.2.2.2.2.2.2.2.2.2.2.2.2.1, o_this.2.2.2.2.2.2.2.2.2.2.2.2.2.2.2.1, o_this.2.2.2.2.2.2.2.2.2.2.2.2.2.2.2.2.1, o_this.2.2.2.2.2.2.2.2.2.2.2.2.2.2.2.2.2.1, o_this.2.2.2.2.2.2.2.2.2.2.2.2.2.2.2.2.2.2.1, o_this.2.2.2.2.2.2.2.2.2.2.2.2.2.2.2.2.2.2.2.1, o_this.2.2.2.2.2.2.2.2.2.2.2.2.2.2.2.2.2.2.2.2.1, o_this.2.2.2.2.2.2.2.2.2.2.2.2.2.2.2.2.2.2.2.2.2.1, o_this.2.2.2.2.2.2.2.2.2.2.2.2.2.2.2.2.2.2.2.2.2.2.1, o_this.2.2.2.2.2.2.2.2.2.2.2.2.2.2.2.2.2.2.2.2.2.2.2.1, o_this.2.2.2.2.2.2.2.2.2.2.2.2.2.2.2.2.2.2.2.2.2.2.2.2), r_this_keys, r_this_reg) _ _ _ _ dX8_set_143 ⟨hF.symm, rfl⟩ hP hD hS
            · skip
              rw [if_pos c_12] at hF
              refine lv_iload_n hx hb dX8_set_63 rfl (lv_at hl 2 rfl) ?_
              refine lv_ldc (v := 65535) hx hb hown (ht _ ki_X8_124) dX8_set_64 ?_
              refine lv_iand hx hb dX8_set_66 ?_
              refine lv_goto (tgt := 74) hx hb dX8_set_67 (by decide) ?_
              refine lv_topi (fun y_15 hy => ?_)
              rw [q_let_of hy.symm] at hF
              clear hy
              refine pf_X8_59 (x := y_15) hx hb hown ht hK hP hD hS 0 rfl (Nat.le_of_ble_eq_true rfl) dX8_set_74 (fun H locs hP hD hS => ?_)
              have hP : va_P D vwCl [(a_this, oX8 a_this_bytes a_this_keys a_this_reg a_this_card a_this_filled a_this_taken a_this_line a_this_one a_this_two (o_this.1, o_this.2.1, o_this.2.2.1, y_15, o_this.2.2.2.2.1, o_this.2.2.2.2.2.1, o_this.2.2.2.2.2.2.1, o_this.2.2.2.2.2.2.2.1, o_this.2.2.2.2.2.2.2.2.1, o_this.2.2.2.2.2.2.2.2.2.1, o_this.2.2.2.2.2.2.2.2.2.2.1, o_this.2.2.2.2.2.2.2.2.2.2.2.1, o_this.2.2.2.2.2.2.2.2.2.2.2.2.1, o_this.2.2.2.2.2.2.2.2.2.2.2.2.2.1, o_this.2.2.2.2.2.2.2.2.2.2.2.2.2.2.1, o_this.2.2.2.2.2.2.2.2.2.2.2.2.2.2.2.1, o_this.2.2.2.2.2.2.2.2.2.2.2.2.2.2.2.2.1, o_this.2.2.2.2.2.2.2.2.2.2.2.2.2.2.2.2.2.1, o_this.2.2.2.2.2.2.2.2.2.2.2.2.2.2.2.2.2.2.1, o_this.2.2.2.2.2.2.2.2.2.2.2.2.2.2.2.2.2.2.2.1, o_this.2.2.2.2.2.2.2.2.2.2.2.2.2.2.2.2.2.2.2.2.1, o_this.2.2.2.2.2.2.2.2.2.2.2.2.2.2.2.2.2.2.2.2.2.1, o_this.2.2.2.2.2.2.2.2.2.2.2.2.2.2.2.2.2.2.2.2.2.2.1, o_this.2.2.2.2.2.2.2.2.2.2.2.2.2.2.2.2.2.2.2.2.2.2.2.1, o_this.2.2.2.2.2.2.2.2.2.2.2.2.2.2.2.2.2.2.2.2.2.2.2.2)), (a_this_keys, .inl (k_this_keys, 8, .inl r_this_keys)), (a_this_reg, .inl (k_this_reg, 16, .inl r_this_reg))] H := hP
              have hD : va_D A [(a_this, oX8 a_this_bytes a_this_keys a_this_reg a_this_card a_this_filled a_this_taken a_this_line a_this_one a_this_two (o_this.1, o_this.2.1, o_this.2.2.1, y_15, o_this.2.2.2.2.1, o_this.2.2.2.2.2.1, o_this.2.2.2.2.2.2.1, o_this.2.2.2.2.2.2.2.1, o_this.2.2.2.2.2.2.2.2.1, o_this.2.2.2.2.2.2.2.2.2.1, o_this.2.2.2.2.2.2.2.2.2.2.1, o_this.2.2.2.2.2.2.2.2.2.2.2.1, o_this.2.2.2.2.2.2.2.2.2.2.2.2.1, o_this.2.2.2.2.2.2.2.2.2.2.2.2.2.1, o_this.2.2.2.2.2.2.2.2.2.2.2.2.2.2.1, o_this.2.2.2.2.2.2.2.2.2.2.2.2.2.2.2.1, o_this.2.2.2.2.2.2.2.2.2.2.2.2.2.2.2.2.1, o_this.2.2.2.2.2.2.2.2.2.2.2.2.2.2.2.2.2.1, o_this.2.2.2.2.2.2.2.2.2.2.2.2.2.2.2.2.2.2.1, o_this.2.2.2.2.2.2.2.2.2.2.2.2.2.2.2.2.2.2.2.1, o_this.2.2.2.2.2.2.2.2.2.2.2.2.2.2.2.2.2.2.2.2.1, o_this.2.2.2.2.2.2.2.2.2.2.2.2.2.2.2.2.2.2.2.2.2.1, o_this.2.2.2.2.2.2.2.2.2.2.2.2.2.2.2.2.2.2.2.2.2.2.1, o_this.2.2.2.2.2.2.2.2.2.2.2.2.2.2.2.2.2.2.2.2.2.2.2.1, o_this.2.2.2.2.2.2.2.2.2.2.2.2.2.2.2.2.2.2.2.2.2.2.2.2)), (a_this_keys, .inl (k_this_keys, 8, .inl r_this_keys)), (a_this_reg, .inl (k_this_reg, 16, .inl r_this_reg))] := hD
              refine lv_aload_n hx hb dX8_set_77 rfl (lv_at hl 0 rfl) ?_
              refine lv_iload_n hx hb dX8_set_78 rfl (lv_at hl 1 rfl) ?_
              refine lv_bipush (v := 17) hx hb dX8_set_79 (by decide) ?_
              refine lv_icmp_ne (tgt := 91) hx hb dX8_set_81 (by decide) (fun c_16 => ?_) (fun c_16 => ?_)
              · skip
                rw [if_neg c_16] at hF
                refine lv_aload_n hx hb dX8_set_91 rfl (lv_at hl 0 rfl) ?_
                refine gf_X8_46 (v := .int o_this.2.1) hx hb hown ht hK hP 0 rfl rfl dX8_set_92 ?_
                refine pf_X8_46 (x := o_this.2.1) hx hb hown ht hK hP hD hS 0 rfl (Nat.le_of_ble_eq_true rfl) dX8_set_95 (fun H locs hP hD hS => ?_)
                have hP : va_P D vwCl [(a_this, oX8 a_this_bytes a_this_keys a_this_reg a_this_card a_this_filled a_this_taken a_this_line a_this_one a_this_two (o_this.1, o_this.2.1, o_this.2.2.1, y_15, o_this.2.2.2.2.1, o_this.2.2.2.2.2.1, o_this.2.2.2.2.2.2.1, o_this.2.2.2.2.2.2.2.1, o_this.2.2.2.2.2.2.2.2.1, o_this.2.2.2.2.2.2.2.2.2.1, o_this.2.2.2.2.2.2.2.2.2.2.1, o_this.2.2.2.2.2.2.2.2.2.2.2.1, o_this.2.2.2.2.2.2.2.2.2.2.2.2.1, o_this.2.2.2.2.2.2.2.2.2.2.2.2.2.1, o_this.2.2.2.2.2.2.2.2.2.2.2.2.2.2.1, o_this.2.2.2.2.2.2.2.2.2.2.2.2.2.2.2.1, o_this.2.2.2.2.2.2.2.2.2.2.2.2.2.2.2.2.1, o_this.2.2.2.2.2.2.2.2.2.2.2.2.2.2.2.2.2.1, o_this.2.2.2.2.2.2.2.2.2.2.2.2.2.2.2.2.2.2.1, o_this.2.2.2.2.2.2.2.2.2.2.2.2.2.2.2.2.2.2.2.1, o_this.2.2.2.2.2.2.2.2.2.2.2.2.2.2.2.2.2.2.2.2.1, o_this.2.2.2.2.2.2.2.2.2.2.2.2.2.2.2.2.2.2.2.2.2.1, o_this.2.2.2.2.2.2.2.2.2.2.2.2.2.2.2.2.2.2.2.2.2.2.1, o_this.2.2.2.2.2.2.2.2.2.2.2.2.2.2.2.2.2.2.2.2.2.2.2.1, o_this.2.2.2.2.2.2.2.2.2.2.2.2.2.2.2.2.2.2.2.2.2.2.2.2)), (a_this_keys, .inl (k_this_keys, 8, .inl r_this_keys)), (a_this_reg, .inl (k_this_reg, 16, .inl r_this_reg))] H := hP
                have hD : va_D A [(a_this, oX8 a_this_bytes a_this_keys a_this_reg a_this_card a_this_filled a_this_taken a_this_line a_this_one a_this_two (o_this.1, o_this.2.1, o_this.2.2.1, y_15, o_this.2.2.2.2.1, o_this.2.2.2.2.2.1, o_this.2.2.2.2.2.2.1, o_this.2.2.2.2.2.2.2.1, o_this.2.2.2.2.2.2.2.2.1, o_this.2.2.2.2.2.2.2.2.2.1, o_this.2.2.2.2.2.2.2.2.2.2.1, o_this.2.2.2.2.2.2.2.2.2.2.2.1, o_this.2.2.2.2.2.2.2.2.2.2.2.2.1, o_this.2.2.2.2.2.2.2.2.2.2.2.2.2.1, o_this.2.2.2.2.2.2.2.2.2.2.2.2.2.2.1, o_this.2.2.2.2.2.2.2.2.2.2.2.2.2.2.2.1, o_this.2.2.2.2.2.2.2.2.2.2.2.2.2.2.2.2.1, o_this.2.2.2.2.2.2.2.2.2.2.2.2.2.2.2.2.2.1, o_this.2.2.2.2.2.2.2.2.2.2.2.2.2.2.2.2.2.2.1, o_this.2.2.2.2.2.2.2.2.2.2.2.2.2.2.2.2.2.2.2.1, o_this.2.2.2.2.2.2.2.2.2.2.2.2.2.2.2.2.2.2.2.2.1, o_this.2.2.2.2.2.2.2.2.2.2.2.2.2.2.2.2.2.2.2.2.2.1, o_this.2.2.2.2.2.2.2.2.2.2.2.2.2.2.2.2.2.2.2.2.2.2.1, o_this.2.2.2.2.2.2.2.2.2.2.2.2.2.2.2.2.2.2.2.2.2.2.2.1, o_this.2.2.2.2.2.2.2.2.2.2.2.2.2.2.2.2.2.2.2.2.2.2.2.2)), (a_this_keys, .inl (k_this_keys, 8, .inl r_this_keys)), (a_this_reg, .inl (k_this_reg, 16, .inl r_this_reg))] := hD
                refine lv_goto (tgt := 142) hx hb dX8_set_98 (by decide) ?_
                refine lv_iconst (v := 1) hx hb dX8_set_142 (by decide) ?_
                exact hQ true (true, (o_this.1, o_this.2.1, o_this.2.2.1, y_15, o_this.2.2.2.2.1, o_this.2.2.2.2.2.1, o_this.2.2.2.2.2.2.1, o_this.2.2.2.2.2.2.2.1, o_this.2.2.2.2.2.2.2.2.1, o_this.2.2.2.2.2.2.2.2.2.1, o_this.2.2.2.2.2.2.2.2.2.2.1, o_this.2.2.2.2.2.2.2.2.2.2.2.1, o_this.2.2.2.2.2.2.2.2.2.2.2.2.1, o_this.2.2.2.2.2.2.2.2.2.2.2.2.2.1, o_this.2.2.2.2.2.2.2.2.2.2.2.2.2.2.1, o_this.2.2.2.2.2.2.2.2.2.2.2.2.2.2.2.1, o_this.2.2.2.2.2.2.2.2.2.2.2.2.2.2.2.2.1, o_this.2.2.2.2.2.2.2.2.2.2.2.2.2.2.2.2.2.1, o_this.2.2.2.2.2.2.2.2.2.2.2.2.2.2.2.2.2.2.1, o_this.2.2.2.2.2.2.2.2.2.2.2.2.2.2.2.2.2.2.2.1, o_this.2.2.2.2.2.2.2.2.2.2.2.2.2.2.2.2.2.2.2.2.1, o_this.2.2.2.2.2.2.2.2.2.2.2.2.2.2.2.2.2.2.2.2.2.1, o_this.2.2.2.2.2.2.2.2.2.2.2.2.2.2.2.2.2.2.2.2.2.2.1, o_this.2.2.2.2.2.2.2.2.2.2.2.2.2.2.2.2.2.2.2.2.2.2.2.1, o_this.2.2.2.2.2.2.2.2.2.2.2.2.2.2.2.2.2.2.2.2.2.2.2.2), r_this_keys, r_this_reg) _ _ _ _ dX8_set_143 ⟨hF.symm, rfl⟩ hP hD hS
              · skip
                rw [if_pos c_16] at hF
                refine lv_iload_n hx hb dX8_set_84 rfl (lv_at hl 2 rfl) ?_
                refine lv_bipush (v := 15) hx hb dX8_set_85 (by decide) ?_
                refine lv_iand hx hb dX8_set_87 ?_
                refine lv_goto (tgt := 95) hx hb dX8_set_88 (by decide) ?_
                refine lv_topi (fun y_17 hy => ?_)
                rw [q_let_of hy.symm] at hF
                clear hy
                refine pf_X8_46 (x := y_17) hx hb hown ht hK hP hD hS 0 rfl (Nat.le_of_ble_eq_true rfl) dX8_set_95 (fun H locs hP hD hS => ?_)
                have hP : va_P D vwCl [(a_this, oX8 a_this_bytes a_this_keys a_this_reg a_this_card a_this_filled a_this_taken a_this_line a_this_one a_this_two (o_this.1, y_17, o_this.2.2.1, y_15, o_this.2.2.2.2.1, o_this.2.2.2.2.2.1, o_this.2.2.2.2.2.2.1, o_this.2.2.2.2.2.2.2.1, o_this.2.2.2.2.2.2.2.2.1, o_this.2.2.2.2.2.2.2.2.2.1, o_this.2.2.2.2.2.2.2.2.2.2.1, o_this.2.2.2.2.2.2.2.2.2.2.2.1, o_this.2.2.2.2.2.2.2.2.2.2.2.2.1, o_this.2.2.2.2.2.2.2.2.2.2.2.2.2.1, o_this.2.2.2.2.2.2.2.2.2.2.2.2.2.2.1, o_this.2.2.2.2.2.2.2.2.2.2.2.2.2.2.2.1, o_this.2.2.2.2.2.2.2.2.2.2.2.2.2.2.2.2.1, o_this.2.2.2.2.2.2.2.2.2.2.2.2.2.2.2.2.2.1, o_this.2.2.2.2.2.2.2.2.2.2.2.2.2.2.2.2.2.2.1, o_this.2.2.2.2.2.2.2.2.2.2.2.2.2.2.2.2.2.2.2.1, o_this.2.2.2.2.2.2.2.2.2.2.2.2.2.2.2.2.2.2.2.2.1, o_this.2.2.2.2.2.2.2.2.2.2.2.2.2.2.2.2.2.2.2.2.2.1, o_this.2.2.2.2.2.2.2.2.2.2.2.2.2.2.2.2.2.2.2.2.2.2.1, o_this.2.2.2.2.2.2.2.2.2.2.2.2.2.2.2.2.2.2.2.2.2.2.2.1, o_this.2.2.2.2.2.2.2.2.2.2.2.2.2.2.2.2.2.2.2.2.2.2.2.2)), (a_this_keys, .inl (k_this_keys, 8, .inl r_this_keys)), (a_this_reg, .inl (k_this_reg, 16, .inl r_this_reg))] H := hP
                have hD : va_D A [(a_this, oX8 a_this_bytes a_this_keys a_this_reg a_this_card a_this_filled a_this_taken a_this_line a_this_one a_this_two (o_this.1, y_17, o_this.2.2.1, y_15, o_this.2.2.2.2.1, o_this.2.2.2.2.2.1, o_this.2.2.2.2.2.2.1, o_this.2.2.2.2.2.2.2.1, o_this.2.2.2.2.2.2.2.2.1, o_this.2.2.2.2.2.2.2.2.2.1, o_this.2.2.2.2.2.2.2.2.2.2.1, o_this.2.2.2.2.2.2.2.2.2.2.2.1, o_this.2.2.2.2.2.2.2.2.2.2.2.2.1, o_this.2.2.2.2.2.2.2.2.2.2.2.2.2.1, o_this.2.2.2.2.2.2.2.2.2.2.2.2.2.2.1, o_this.2.2.2.2.2.2.2.2.2.2.2.2.2.2.2.1, o_this.2.2.2.2.2.2.2.2.2.2.2.2.2.2.2.2.1, o_this.2.2.2.2.2.2.2.2.2.2.2.2.2.2.2.2.2.1, o_this.2.2.2.2.2.2.2.2.2.2.2.2.2.2.2.2.2.2.1, o_this.2.2.2.2.2.2.2.2.2.2.2.2.2.2.2.2.2.2.2.1, o_this.2.2.2.2.2.2.2.2.2.2.2.2.2.2.2.2.2.2.2.2.1, o_this.2.2.2.2.2.2.2.2.2.2.2.2.2.2.2.2.2.2.2.2.2.1, o_this.2.2.2.2.2.2.2.2.2.2.2.2.2.2.2.2.2.2.2.2.2.2.1, o_this.2.2.2.2.2.2.2.2.2.2.2.2.2.2.2.2.2.2.2.2.2.2.2.1, o_this.2.2.2.2.2.2.2.2.2.2.2.2.2.2.2.2.2.2.2.2.2.2.2.2)), (a_this_keys, .inl (k_this_keys, 8, .inl r_this_keys)), (a_this_reg, .inl (k_this_reg, 16, .inl r_this_reg))] := hD
                refine lv_goto (tgt := 142) hx hb dX8_set_98 (by decide) ?_
                refine lv_iconst (v := 1) hx hb dX8_set_142 (by decide) ?_
                exact hQ true (true, (o_this.1, y_17, o_this.2.2.1, y_15, o_this.2.2.2.2.1, o_this.2.2.2.2.2.1, o_this.2.2.2.2.2.2.1, o_this.2.2.2.2.2.2.2.1, o_this.2.2.2.2.2.2.2.2.1, o_this.2.2.2.2.2.2.2.2.2.1, o_this.2.2.2.2.2.2.2.2.2.2.1, o_this.2.2.2.2.2.2.2.2.2.2.2.1, o_this.2.2.2.2.2.2.2.2.2.2.2.2.1, o_this.2.2.2.2.2.2.2.2.2.2.2.2.2.1, o_this.2.2.2.2.2.2.2.2.2.2.2.2.2.2.1, o_this.2.2.2.2.2.2.2.2.2.2.2.2.2.2.2.1, o_this.2.2.2.2.2.2.2.2.2.2.2.2.2.2.2.2.1, o_this.2.2.2.2.2.2.2.2.2.2.2.2.2.2.2.2.2.1, o_this.2.2.2.2.2.2.2.2.2.2.2.2.2.2.2.2.2.2.1, o_this.2.2.2.2.2.2.2.2.2.2.2.2.2.2.2.2.2.2.2.1, o_this.2.2.2.2.2.2.2.2.2.2.2.2.2.2.2.2.2.2.2.2.1, o_this.2.2.2.2.2.2.2.2.2.2.2.2.2.2.2.2.2.2.2.2.2.1, o_this.2.2.2.2.2.2.2.2.2.2.2.2.2.2.2.2.2.2.2.2.2.2.1, o_this.2.2.2.2.2.2.2.2.2.2.2.2.2.2.2.2.2.2.2.2.2.2.2.1, o_this.2.2.2.2.2.2.2.2.2.2.2.2.2.2.2.2.2.2.2.2.2.2.2.2), r_this_keys, r_this_reg) _ _ _ _ dX8_set_143 ⟨hF.symm, rfl⟩ hP hD hS
        · skip
          rw [if_neg c_4] at hF
          rw [if_neg c_4] at hs
          refine lv_aload_n hx hb dX8_set_34 rfl (lv_at hl 0 rfl) ?_
          refine gf_X8_13 (v := .ref a_this_keys) hx hb hown ht hK hP 0 rfl rfl dX8_set_35 ?_
          refine lv_iload_n hx hb dX8_set_38 rfl (lv_at hl 1 rfl) ?_
          refine lv_bipush (v := 20) hx hb dX8_set_39 (by decide) ?_
          refine lv_isub hx hb dX8_set_41 ?_
          refine lv_iload_n hx hb dX8_set_42 rfl (lv_at hl 2 rfl) ?_
          refine lv_bipush (v := 15) hx hb dX8_set_43 (by decide) ?_
          refine lv_iand hx hb dX8_set_45 ?_
          have hi_18 := hs
          refine va_iast hx hb hK hP hD hS 1 0 rfl rfl hi_18 dX8_set_46 (fun H locs hP hD hS => ?_)
          have hP : va_P D vwCl [(a_this, oX8 a_this_bytes a_this_keys a_this_reg a_this_card a_this_filled a_this_taken a_this_line a_this_one a_this_two o_this), (a_this_keys, .inl (k_this_keys, 8, .inl (upd r_this_keys (p1 - (20 : Int32)).toNatClampNeg (p2 &&& (15 : Int32))))), (a_this_reg, .inl (k_this_reg, 16, .inl r_this_reg))] H := hP
          have hD : va_D A [(a_this, oX8 a_this_bytes a_this_keys a_this_reg a_this_card a_this_filled a_this_taken a_this_line a_this_one a_this_two o_this), (a_this_keys, .inl (k_this_keys, 8, .inl (upd r_this_keys (p1 - (20 : Int32)).toNatClampNeg (p2 &&& (15 : Int32))))), (a_this_reg, .inl (k_this_reg, 16, .inl r_this_reg))] := hD
          refine lv_goto (tgt := 142) hx hb dX8_set_47 (by decide) ?_
          refine lv_iconst (v := 1) hx hb dX8_set_142 (by decide) ?_
          exact hQ true (true, o_this, (upd r_this_keys (p1 - (20 : Int32)).toNatClampNeg (p2 &&& (15 : Int32))), r_this_reg) _ _ _ _ dX8_set_143 ⟨hF.symm, rfl⟩ hP hD hS
      · skip
        rw [if_neg c_3] at hF
        rw [if_neg c_3] at hs
        refine lv_aload_n hx hb dX8_set_18 rfl (lv_at hl 0 rfl) ?_
        refine gf_X8_16 (v := .ref a_this_reg) hx hb hown ht hK hP 0 rfl rfl dX8_set_19 ?_
        refine lv_iload_n hx hb dX8_set_22 rfl (lv_at hl 1 rfl) ?_
        refine lv_iload_n hx hb dX8_set_23 rfl (lv_at hl 2 rfl) ?_
        refine va_iast hx hb hK hP hD hS 2 1 rfl rfl (q_in c_1 c_3 (by decide)) dX8_set_24 (fun H locs hP hD hS => ?_)
        have hP : va_P D vwCl [(a_this, oX8 a_this_bytes a_this_keys a_this_reg a_this_card a_this_filled a_this_taken a_this_line a_this_one a_this_two o_this), (a_this_keys, .inl (k_this_keys, 8, .inl r_this_keys)), (a_this_reg, .inl (k_this_reg, 16, .inl (upd r_this_reg p1.toNatClampNeg p2)))] H := hP
        have hD : va_D A [(a_this, oX8 a_this_bytes a_this_keys a_this_reg a_this_card a_this_filled a_this_taken a_this_line a_this_one a_this_two o_this), (a_this_keys, .inl (k_this_keys, 8, .inl r_this_keys)), (a_this_reg, .inl (k_this_reg, 16, .inl (upd r_this_reg p1.toNatClampNeg p2)))] := hD
        refine lv_goto (tgt := 142) hx hb dX8_set_25 (by decide) ?_
        refine lv_iconst (v := 1) hx hb dX8_set_142 (by decide) ?_
        exact hQ true (true, o_this, r_this_keys, (upd r_this_reg p1.toNatClampNeg p2)) _ _ _ _ dX8_set_143 ⟨hF.symm, rfl⟩ hP hD hS
    · skip
      rw [if_neg c_2] at hF
      rw [if_neg c_2] at hs
      refine lv_iconst (v := 0) hx hb dX8_set_10 (by decide) ?_
      exact hQ false (false, o_this, r_this_keys, r_this_reg) _ _ _ _ dX8_set_11 ⟨hF.symm, rfl⟩ hP hD hS
theorem cv_X8_set : qV yX8_set cX8_set 3 (some .boolean) 2 := ⟨kc_X8_set, kt_X8_set, ks_X8_set, kn_X8, by decide, by decide +kernel⟩
def f_X8_get (o_this : Int32 × Int32 × Int32 × Int32 × Bool × Bool × Int32 × Int32 × Int32 × Int32 × Bool × Bool × Bool × Int32 × Int32 × Int32 × Int32 × Int32 × Int32 × Int32 × Int32 × Int32 × Int32 × Int32 × Int32) (r_this_keys : Nat → Int32) (r_this_reg : Nat → Int32) (p1 : Int32) : Int32 := (if p1 < 0 then (-1) else (if p1 ≤ (27 : Int32) then (if (16 : Int32) ≤ p1 then (if p1 ≤ (19 : Int32) then (if p1 = (16 : Int32) then o_this.2.2.2.1 else (if p1 = (17 : Int32) then o_this.2.1 else (if p1 = (18 : Int32) then o_this.1 else o_this.2.2.1))) else (r_this_keys (p1 - (20 : Int32)).toNatClampNeg)) else (r_this_reg p1.toNatClampNeg)) else (-1)))
def s_X8_get (p1 : Int32) : Prop := (if p1 < 0 then True else (if p1 ≤ (27 : Int32) then (if (16 : Int32) ≤ p1 then (if p1 ≤ (19 : Int32) then True else vp_in (p1 - (20 : Int32)) 8) else True) else True))
set_option linter.all false in
set_option maxHeartbeats 4000000 in
set_option maxRecDepth 100000 in
theorem c_X8_get (l : Launch) (D : va_G) (a_this a_this_keys a_this_reg a_this_bytes a_this_card a_this_filled a_this_taken a_this_line a_this_one a_this_two : Nat) (k_this_keys k_this_reg : ClassId) (o_this : Int32 × Int32 × Int32 × Int32 × Bool × Bool × Int32 × Int32 × Int32 × Int32 × Bool × Bool × Bool × Int32 × Int32 × Int32 × Int32 × Int32 × Int32 × Int32 × Int32 × Int32 × Int32 × Int32 × Int32) (r_this_keys : Nat → Int32) (r_this_reg : Nat → Int32) (p1 : Int32) (hs : s_X8_get p1) : CtI l yX8_get cX8_get 2 (some .int) { frames := 0, cells := 0, slots := 0, locals := 0 } D [.ref a_this, .int p1] [(a_this, oX8 a_this_bytes a_this_keys a_this_reg a_this_card a_this_filled a_this_taken a_this_line a_this_one a_this_two o_this), (a_this_keys, .inl (k_this_keys, 8, .inl r_this_keys)), (a_this_reg, .inl (k_this_reg, 16, .inl r_this_reg))] [(k_this_keys, .int), (k_this_reg, .int)] (fun (r : Int32) (u : Int32) => f_X8_get o_this r_this_keys r_this_reg p1 = u ∧ r = u) (fun u => [(a_this, oX8 a_this_bytes a_this_keys a_this_reg a_this_card a_this_filled a_this_taken a_this_line a_this_one a_this_two o_this), (a_this_keys, .inl (k_this_keys, 8, .inl r_this_keys)), (a_this_reg, .inl (k_this_reg, 16, .inl r_this_reg))]) := by
  refine CtI.of (by decide) (Nat.le_of_ble_eq_true rfl) ?_
  intro p e s m below meth c A ls Q hE hP hD hS hl hQ
  obtain ⟨hx, hb, hml, hown, ht, hN, hK, hA⟩ := hE
  have hown : s.vm.findClass RX8 = some m.cls := hown
  have hl : lv_has ls 2 [(0, .ref a_this), (1, .int p1)] := hl
  obtain ⟨F, hF⟩ : ∃ F, f_X8_get o_this r_this_keys r_this_reg p1 = F := ⟨_, rfl⟩
  rw [hF] at hQ
  unfold f_X8_get at hF
  unfold s_X8_get at hs
  refine lv_iload_n hx hb dX8_get_0 rfl (lv_at hl 1 rfl) ?_
  refine lv_if_lt (tgt := 10) hx hb dX8_get_1 (by decide) (fun c_1 => ?_) (fun c_1 => ?_)
  · skip
    rw [if_pos c_1] at hF
    rw [if_pos c_1] at hs
    refine lv_iconst (v := (-1)) hx hb dX8_get_10 (by decide) ?_
    exact hQ (-1) (-1) _ _ _ _ dX8_get_11 ⟨hF.symm, rfl⟩ hP hD hS
  · skip
    rw [if_neg c_1] at hF
    rw [if_neg c_1] at hs
    refine lv_iload_n hx hb dX8_get_4 rfl (lv_at hl 1 rfl) ?_
    refine lv_bipush (v := 27) hx hb dX8_get_5 (by decide) ?_
    refine lv_icmp_le (tgt := 12) hx hb dX8_get_7 (by decide) (fun c_2 => ?_) (fun c_2 => ?_)
    · skip
      rw [if_pos c_2] at hF
      rw [if_pos c_2] at hs
      refine lv_iload_n hx hb dX8_get_12 rfl (lv_at hl 1 rfl) ?_
      refine lv_bipush (v := 16) hx hb dX8_get_13 (by decide) ?_
      refine lv_icmp_ge (tgt := 25) hx hb dX8_get_15 (by decide) (fun c_3 => ?_) (fun c_3 => ?_)
      · skip
        rw [if_pos c_3] at hF
        rw [if_pos c_3] at hs
        refine lv_iload_n hx hb dX8_get_25 rfl (lv_at hl 1 rfl) ?_
        refine lv_bipush (v := 19) hx hb dX8_get_26 (by decide) ?_
        refine lv_icmp_le (tgt := 41) hx hb dX8_get_28 (by decide) (fun c_4 => ?_) (fun c_4 => ?_)
        · skip
          rw [if_pos c_4] at hF
          rw [if_pos c_4] at hs
          refine lv_iload_n hx hb dX8_get_41 rfl (lv_at hl 1 rfl) ?_
          refine lv_bipush (v := 16) hx hb dX8_get_42 (by decide) ?_
          refine lv_icmp_ne (tgt := 54) hx hb dX8_get_44 (by decide) (fun c_5 => ?_) (fun c_5 => ?_)
          · skip
            rw [if_neg c_5] at hF
            refine lv_iload_n hx hb dX8_get_54 rfl (lv_at hl 1 rfl) ?_
            refine lv_bipush (v := 17) hx hb dX8_get_55 (by decide) ?_
            refine lv_icmp_ne (tgt := 67) hx hb dX8_get_57 (by decide) (fun c_6 => ?_) (fun c_6 => ?_)
            · skip
              rw [if_neg c_6] at hF
              refine lv_iload_n hx hb dX8_get_67 rfl (lv_at hl 1 rfl) ?_
              refine lv_bipush (v := 18) hx hb dX8_get_68 (by decide) ?_
              refine lv_icmp_ne (tgt := 80) hx hb dX8_get_70 (by decide) (fun c_7 => ?_) (fun c_7 => ?_)
              · skip
                rw [if_neg c_7] at hF
                refine lv_aload_n hx hb dX8_get_80 rfl (lv_at hl 0 rfl) ?_
                refine gf_X8_52 (v := .int o_this.2.2.1) hx hb hown ht hK hP 0 rfl rfl dX8_get_81 ?_
                exact hQ o_this.2.2.1 o_this.2.2.1 _ _ _ _ dX8_get_84 ⟨hF.symm, rfl⟩ hP hD hS
              · skip
                rw [if_pos c_7] at hF
                refine lv_aload_n hx hb dX8_get_73 rfl (lv_at hl 0 rfl) ?_
                refine gf_X8_49 (v := .int o_this.1) hx hb hown ht hK hP 0 rfl rfl dX8_get_74 ?_
                refine lv_goto (tgt := 84) hx hb dX8_get_77 (by decide) ?_
                exact hQ o_this.1 o_this.1 _ _ _ _ dX8_get_84 ⟨hF.symm, rfl⟩ hP hD hS
            · skip
              rw [if_pos c_6] at hF
              refine lv_aload_n hx hb dX8_get_60 rfl (lv_at hl 0 rfl) ?_
              refine gf_X8_46 (v := .int o_this.2.1) hx hb hown ht hK hP 0 rfl rfl dX8_get_61 ?_
              refine lv_goto (tgt := 84) hx hb dX8_get_64 (by decide) ?_
              exact hQ o_this.2.1 o_this.2.1 _ _ _ _ dX8_get_84 ⟨hF.symm, rfl⟩ hP hD hS
          · skip
            rw [if_pos c_5] at hF
            refine lv_aload_n hx hb dX8_get_47 rfl (lv_at hl 0 rfl) ?_
            refine gf_X8_59 (v := .int o_this.2.2.2.1) hx hb hown ht hK hP 0 rfl rfl dX8_get_48 ?_
            refine lv_goto (tgt := 84) hx hb dX8_get_51 (by decide) ?_
            exact hQ o_this.2.2.2.1 o_this.2.2.2.1 _ _ _ _ dX8_get_84 ⟨hF.symm, rfl⟩ hP hD hS
        · skip
          rw [if_neg c_4] at hF
          rw [if_neg c_4] at hs
          refine lv_aload_n hx hb dX8_get_31 rfl (lv_at hl 0 rfl) ?_
          refine gf_X8_13 (v := .ref a_this_keys) hx hb hown ht hK hP 0 rfl rfl dX8_get_32 ?_
          refine lv_iload_n hx hb dX8_get_35 rfl (lv_at hl 1 rfl) ?_
          refine lv_bipush (v := 20) hx hb dX8_get_36 (by decide) ?_
          refine lv_isub hx hb dX8_get_38 ?_
          have hi_8 := hs
          refine va_iald hx hb hK hP 1 0 rfl rfl hi_8 dX8_get_39 ?_
          exact hQ (r_this_keys (p1 - (20 : Int32)).toNatClampNeg) (r_this_keys (p1 - (20 : Int32)).toNatClampNeg) _ _ _ _ dX8_get_40 ⟨hF.symm, rfl⟩ hP hD hS
      · skip
        rw [if_neg c_3] at hF
        rw [if_neg c_3] at hs
        refine lv_aload_n hx hb dX8_get_18 rfl (lv_at hl 0 rfl) ?_
        refine gf_X8_16 (v := .ref a_this_reg) hx hb hown ht hK hP 0 rfl rfl dX8_get_19 ?_
        refine lv_iload_n hx hb dX8_get_22 rfl (lv_at hl 1 rfl) ?_
        refine va_iald hx hb hK hP 2 1 rfl rfl (q_in c_1 c_3 (by decide)) dX8_get_23 ?_
        exact hQ (r_this_reg p1.toNatClampNeg) (r_this_reg p1.toNatClampNeg) _ _ _ _ dX8_get_24 ⟨hF.symm, rfl⟩ hP hD hS
    · skip
      rw [if_neg c_2] at hF
      rw [if_neg c_2] at hs
      refine lv_iconst (v := (-1)) hx hb dX8_get_10 (by decide) ?_
      exact hQ (-1) (-1) _ _ _ _ dX8_get_11 ⟨hF.symm, rfl⟩ hP hD hS
theorem cv_X8_get : qV yX8_get cX8_get 2 (some .int) 1 := ⟨kc_X8_get, kt_X8_get, ks_X8_get, kn_X8, by decide, by decide +kernel⟩
def f_X8_punch_L34 (o_this : Int32 × Int32 × Int32 × Int32 × Bool × Bool × Int32 × Int32 × Int32 × Int32 × Bool × Bool × Bool × Int32 × Int32 × Int32 × Int32 × Int32 × Int32 × Int32 × Int32 × Int32 × Int32 × Int32 × Int32) (p1 : Int64) : Nat → (Nat → Int32) → (Nat → Int32) → Int32 → Bool × (Nat → Int32) × (Nat → Int32)
  | 0, r_this_card_L34, r_this_filled_L34, x4 => (false, r_this_card_L34, r_this_filled_L34)
  | fuel + 1, r_this_card_L34, r_this_filled_L34, x4 => (if x4 < 0 then (true, r_this_card_L34, r_this_filled_L34) else f_X8_punch_L34 o_this p1 fuel (upd r_this_card_L34 (((16 : Int32) * o_this.2.2.2.2.2.2.2.2.2.2.2.2.2.2.2.2.2.2.2.2.1) + (r_this_filled_L34 o_this.2.2.2.2.2.2.2.2.2.2.2.2.2.2.2.2.2.2.2.2.1.toNatClampNeg)).toNatClampNeg (((p1 >>> (((8 : Int32) * x4).toInt64 &&& 63)) &&& (255 : Int64)).toInt32)) (upd r_this_filled_L34 o_this.2.2.2.2.2.2.2.2.2.2.2.2.2.2.2.2.2.2.2.2.1.toNatClampNeg ((r_this_filled_L34 o_this.2.2.2.2.2.2.2.2.2.2.2.2.2.2.2.2.2.2.2.2.1.toNatClampNeg) + (1 : Int32))) (x4 + ((-1) : Int32)))
def s_X8_punch_L34 (o_this : Int32 × Int32 × Int32 × Int32 × Bool × Bool × Int32 × Int32 × Int32 × Int32 × Bool × Bool × Bool × Int32 × Int32 × Int32 × Int32 × Int32 × Int32 × Int32 × Int32 × Int32 × Int32 × Int32 × Int32) (p1 : Int64) : Nat → (Nat → Int32) → (Nat → Int32) → Int32 → Prop
  | 0, _, _, _ => True
  | fuel + 1, r_this_card_L34, r_this_filled_L34, x4 => (if x4 < 0 then True else (vp_in o_this.2.2.2.2.2.2.2.2.2.2.2.2.2.2.2.2.2.2.2.2.1 10 ∧ (vp_in (((16 : Int32) * o_this.2.2.2.2.2.2.2.2.2.2.2.2.2.2.2.2.2.2.2.2.1) + (r_this_filled_L34 o_this.2.2.2.2.2.2.2.2.2.2.2.2.2.2.2.2.2.2.2.2.1.toNatClampNeg)) 160 ∧ (vp_in o_this.2.2.2.2.2.2.2.2.2.2.2.2.2.2.2.2.2.2.2.2.1 10 ∧ (vp_in o_this.2.2.2.2.2.2.2.2.2.2.2.2.2.2.2.2.2.2.2.2.1 10 ∧ s_X8_punch_L34 o_this p1 fuel (upd r_this_card_L34 (((16 : Int32) * o_this.2.2.2.2.2.2.2.2.2.2.2.2.2.2.2.2.2.2.2.2.1) + (r_this_filled_L34 o_this.2.2.2.2.2.2.2.2.2.2.2.2.2.2.2.2.2.2.2.2.1.toNatClampNeg)).toNatClampNeg (((p1 >>> (((8 : Int32) * x4).toInt64 &&& 63)) &&& (255 : Int64)).toInt32)) (upd r_this_filled_L34 o_this.2.2.2.2.2.2.2.2.2.2.2.2.2.2.2.2.2.2.2.2.1.toNatClampNeg ((r_this_filled_L34 o_this.2.2.2.2.2.2.2.2.2.2.2.2.2.2.2.2.2.2.2.2.1.toNatClampNeg) + (1 : Int32))) (x4 + ((-1) : Int32)))))))
def f_X8_punch (o_this : Int32 × Int32 × Int32 × Int32 × Bool × Bool × Int32 × Int32 × Int32 × Int32 × Bool × Bool × Bool × Int32 × Int32 × Int32 × Int32 × Int32 × Int32 × Int32 × Int32 × Int32 × Int32 × Int32 × Int32) (r_this_card : Nat → Int32) (r_this_filled : Nat → Int32) (p1 : Int64) (p2 : Int32) : Bool × (Nat → Int32) × (Nat → Int32) := (if p2 < (1 : Int32) then (false, r_this_card, r_this_filled) else (if (8 : Int32) < p2 then (false, r_this_card, r_this_filled) else (if ((r_this_filled o_this.2.2.2.2.2.2.2.2.2.2.2.2.2.2.2.2.2.2.2.2.1.toNatClampNeg) + p2) ≤ (16 : Int32) then f_X8_punch_L34 o_this p1 ((((p2 - (1 : Int32)) : Int32).toInt + 1).toNat + 1) r_this_card r_this_filled (p2 - (1 : Int32)) else (false, r_this_card, r_this_filled))))
def s_X8_punch (o_this : Int32 × Int32 × Int32 × Int32 × Bool × Bool × Int32 × Int32 × Int32 × Int32 × Bool × Bool × Bool × Int32 × Int32 × Int32 × Int32 × Int32 × Int32 × Int32 × Int32 × Int32 × Int32 × Int32 × Int32) (r_this_card : Nat → Int32) (r_this_filled : Nat → Int32) (p1 : Int64) (p2 : Int32) : Prop := (if p2 < (1 : Int32) then True else (if (8 : Int32) < p2 then True else (vp_in o_this.2.2.2.2.2.2.2.2.2.2.2.2.2.2.2.2.2.2.2.2.1 10 ∧ (if ((r_this_filled o_this.2.2.2.2.2.2.2.2.2.2.2.2.2.2.2.2.2.2.2.2.1.toNatClampNeg) + p2) ≤ (16 : Int32) then s_X8_punch_L34 o_this p1 ((((p2 - (1 : Int32)) : Int32).toInt + 1).toNat + 1) r_this_card r_this_filled (p2 - (1 : Int32)) else True))))
set_option linter.all false in
set_option maxHeartbeats 4000000 in
set_option maxRecDepth 100000 in
theorem c_X8_punch (l : Launch) (D : va_G) (a_this a_this_card a_this_filled a_this_bytes a_this_keys a_this_reg a_this_taken a_this_line a_this_one a_this_two : Nat) (k_this_card k_this_filled : ClassId) (o_this : Int32 × Int32 × Int32 × Int32 × Bool × Bool × Int32 × Int32 × Int32 × Int32 × Bool × Bool × Bool × Int32 × Int32 × Int32 × Int32 × Int32 × Int32 × Int32 × Int32 × Int32 × Int32 × Int32 × Int32) (r_this_card : Nat → Int32) (r_this_filled : Nat → Int32) (p1 : Int64) (p2 : Int32) (hs : s_X8_punch o_this r_this_card r_this_filled p1 p2) : CtI l yX8_punch cX8_punch 5 (some .boolean) { frames := 0, cells := 0, slots := 0, locals := 0 } D [.ref a_this, .long p1, .int p2] [(a_this, oX8 a_this_bytes a_this_keys a_this_reg a_this_card a_this_filled a_this_taken a_this_line a_this_one a_this_two o_this), (a_this_card, .inl (k_this_card, 160, .inl r_this_card)), (a_this_filled, .inl (k_this_filled, 10, .inl r_this_filled))] [(k_this_card, .int), (k_this_filled, .int)] (fun (r : Int32) (u : Bool × (Nat → Int32) × (Nat → Int32)) => f_X8_punch o_this r_this_card r_this_filled p1 p2 = u ∧ r = bI u.1) (fun u => [(a_this, oX8 a_this_bytes a_this_keys a_this_reg a_this_card a_this_filled a_this_taken a_this_line a_this_one a_this_two o_this), (a_this_card, .inl (k_this_card, 160, .inl u.2.1)), (a_this_filled, .inl (k_this_filled, 10, .inl u.2.2))]) := by
  refine CtI.ofZ (by decide) (Nat.le_of_ble_eq_true rfl) ?_
  intro p e s m below meth c A ls Q hE hP hD hS hl hQ
  obtain ⟨hx, hb, hml, hown, ht, hN, hK, hA⟩ := hE
  have hown : s.vm.findClass RX8 = some m.cls := hown
  have hl : lv_has ls 5 [(0, .ref a_this), (1, .long p1), (3, .int p2)] := hl
  obtain ⟨F, hF⟩ : ∃ F, f_X8_punch o_this r_this_card r_this_filled p1 p2 = F := ⟨_, rfl⟩
  rw [hF] at hQ
  unfold f_X8_punch at hF
  unfold s_X8_punch at hs
  refine lv_iload_n hx hb dX8_punch_0 rfl (lv_at hl 2 rfl) ?_
  refine lv_iconst (v := 1) hx hb dX8_punch_1 (by decide) ?_
  refine lv_icmp_lt (tgt := 27) hx hb dX8_punch_2 (by decide) (fun c_1 => ?_) (fun c_1 => ?_)
  · skip
    rw [if_pos c_1] at hF
    rw [if_pos c_1] at hs
    refine lv_iconst (v := 0) hx hb dX8_punch_27 (by decide) ?_
    exact hQ false (false, r_this_card, r_this_filled) _ _ _ _ dX8_punch_28 ⟨hF.symm, rfl⟩ hP hD hS
  · skip
    rw [if_neg c_1] at hF
    rw [if_neg c_1] at hs
    refine lv_iload_n hx hb dX8_punch_5 rfl (lv_at hl 2 rfl) ?_
    refine lv_bipush (v := 8) hx hb dX8_punch_6 (by decide) ?_
    refine lv_icmp_gt (tgt := 27) hx hb dX8_punch_8 (by decide) (fun c_2 => ?_) (fun c_2 => ?_)
    · skip
      rw [if_pos c_2] at hF
      rw [if_pos c_2] at hs
      refine lv_iconst (v := 0) hx hb dX8_punch_27 (by decide) ?_
      exact hQ false (false, r_this_card, r_this_filled) _ _ _ _ dX8_punch_28 ⟨hF.symm, rfl⟩ hP hD hS
    · skip
      rw [if_neg c_2] at hF
      rw [if_neg c_2] at hs
      refine lv_aload_n hx hb dX8_punch_11 rfl (lv_at hl 0 rfl) ?_
      refine gf_X8_22 (v := .ref a_this_filled) hx hb hown ht hK hP 0 rfl rfl dX8_punch_12 ?_
      refine lv_aload_n hx hb dX8_punch_15 rfl (lv_at hl 0 rfl) ?_
      refine gf_X8_248 (v := .int o_this.2.2.2.2.2.2.2.2.2.2.2.2.2.2.2.2.2.2.2.2.1) hx hb hown ht hK hP 0 rfl rfl dX8_punch_16 ?_
      obtain ⟨hi_3, hs⟩ := hs
      refine va_iald hx hb hK hP 2 1 rfl rfl hi_3 dX8_punch_19 ?_
      refine lv_iload_n hx hb dX8_punch_20 rfl (lv_at hl 2 rfl) ?_
      refine lv_iadd hx hb dX8_punch_21 ?_
      refine lv_bipush (v := 16) hx hb dX8_punch_22 (by decide) ?_
      refine lv_icmp_le (tgt := 29) hx hb dX8_punch_24 (by decide) (fun c_4 => ?_) (fun c_4 => ?_)
      · skip
        rw [if_pos c_4] at hF
        rw [if_pos c_4] at hs
        refine lv_iload_n hx hb dX8_punch_29 rfl (lv_at hl 2 rfl) ?_
        refine lv_iconst (v := 1) hx hb dX8_punch_30 (by decide) ?_
        refine lv_isub hx hb dX8_punch_31 ?_
        refine lv_istore (lv' := [(4, .int (p2 - (1 : Int32))), (0, .ref a_this), (1, .long p1), (3, .int p2)]) hx hb dX8_punch_32 hl (by decide) rfl (fun ls hl => ?_)
        have L34 : ∀ (fuel : Nat) (r_this_card_L34 : Nat → Int32) (r_this_filled_L34 : Nat → Int32) (x4 : Int32) (H : Heap) (locs : List Loc) (ls : Array Slot), ((x4 : Int32).toInt + 1).toNat < fuel → va_P D vwCl [(a_this, oX8 a_this_bytes a_this_keys a_this_reg a_this_card a_this_filled a_this_taken a_this_line a_this_one a_this_two o_this), (a_this_card, .inl (k_this_card, 160, .inl r_this_card_L34)), (a_this_filled, .inl (k_this_filled, 10, .inl r_this_filled_L34))] H → va_D A [(a_this, oX8 a_this_bytes a_this_keys a_this_reg a_this_card a_this_filled a_this_taken a_this_line a_this_one a_this_two o_this), (a_this_card, .inl (k_this_card, 160, .inl r_this_card_L34)), (a_this_filled, .inl (k_this_filled, 10, .inl r_this_filled_L34))] → va_S A s.heap H locs → lv_has ls 5 [(4, .int x4), (0, .ref a_this), (1, .long p1), (3, .int p2)] → f_X8_punch_L34 o_this p1 fuel r_this_card_L34 r_this_filled_L34 x4 = F → s_X8_punch_L34 o_this p1 fuel r_this_card_L34 r_this_filled_L34 x4 → W p l e ({ frames := 0, cells := 0, slots := 0, locals := 0 } : Room) s m ([.ref a_this, .long p1, .int p2] : List Value).toArray below meth c H locs 0 0 Q (F0 m 34 ls []) := by
          intro fuel
          induction fuel with
          | zero => intro r_this_card_L34 r_this_filled_L34 x4 H locs ls hm; exact absurd hm (Nat.not_lt_zero _)
          | succ fuel ih =>
            intro r_this_card_L34 r_this_filled_L34 x4 H locs ls hm  hP hD hS hl hF hs
            rw [f_X8_punch_L34] at hF
            rw [s_X8_punch_L34] at hs
            skip
            refine lv_iload hx hb dX8_punch_34 (lv_at hl 0 rfl) ?_
            refine lv_if_lt (tgt := 92) hx hb dX8_punch_36 (by decide) (fun c_6 => ?_) (fun c_6 => ?_)
            · skip
              rw [if_pos c_6] at hF
              rw [if_pos c_6] at hs
              refine lv_iconst (v := 1) hx hb dX8_punch_92 (by decide) ?_
              exact hQ true (true, r_this_card_L34, r_this_filled_L34) _ _ _ _ dX8_punch_93 ⟨hF.symm, rfl⟩ hP hD hS
            · skip
              rw [if_neg c_6] at hF
              rw [if_neg c_6] at hs
              refine lv_aload_n hx hb dX8_punch_39 rfl (lv_at hl 1 rfl) ?_
              refine gf_X8_19 (v := .ref a_this_card) hx hb hown ht hK hP 0 rfl rfl dX8_punch_40 ?_
              refine lv_bipush (v := 16) hx hb dX8_punch_43 (by decide) ?_
              refine lv_aload_n hx hb dX8_punch_45 rfl (lv_at hl 1 rfl) ?_
              refine gf_X8_248 (v := .int o_this.2.2.2.2.2.2.2.2.2.2.2.2.2.2.2.2.2.2.2.2.1) hx hb hown ht hK hP 0 rfl rfl dX8_punch_46 ?_
              refine lv_imul hx hb dX8_punch_49 ?_
              refine lv_aload_n hx hb dX8_punch_50 rfl (lv_at hl 1 rfl) ?_
              refine gf_X8_22 (v := .ref a_this_filled) hx hb hown ht hK hP 0 rfl rfl dX8_punch_51 ?_
              refine lv_aload_n hx hb dX8_punch_54 rfl (lv_at hl 1 rfl) ?_
              refine gf_X8_248 (v := .int o_this.2.2.2.2.2.2.2.2.2.2.2.2.2.2.2.2.2.2.2.2.1) hx hb hown ht hK hP 0 rfl rfl dX8_punch_55 ?_
              obtain ⟨hi_7, hs⟩ := hs
              refine va_iald hx hb hK hP 2 1 rfl rfl hi_7 dX8_punch_58 ?_
              refine lv_iadd hx hb dX8_punch_59 ?_
              refine lv_lload_n hx hb dX8_punch_60 rfl (lv_at hl 2 rfl) ?_
              refine lv_bipush (v := 8) hx hb dX8_punch_61 (by decide) ?_
              refine lv_iload hx hb dX8_punch_63 (lv_at hl 0 rfl) ?_
              refine lv_imul hx hb dX8_punch_65 ?_
              refine lv_lshr hx hb dX8_punch_66 rfl ?_
              refine lv_ldc2 (v := 255) hx hb hown (ht _ kj_X8_260) dX8_punch_67 ?_
              refine lv_land hx hb dX8_punch_70 ?_
              refine lv_l2i hx hb dX8_punch_71 rfl ?_
              obtain ⟨hi_8, hs⟩ := hs
              refine va_iast hx hb hK hP hD hS 1 0 rfl rfl hi_8 dX8_punch_72 (fun H locs hP hD hS => ?_)
              have hP : va_P D vwCl [(a_this, oX8 a_this_bytes a_this_keys a_this_reg a_this_card a_this_filled a_this_taken a_this_line a_this_one a_this_two o_this), (a_this_card, .inl (k_this_card, 160, .inl (upd r_this_card_L34 (((16 : Int32) * o_this.2.2.2.2.2.2.2.2.2.2.2.2.2.2.2.2.2.2.2.2.1) + (r_this_filled_L34 o_this.2.2.2.2.2.2.2.2.2.2.2.2.2.2.2.2.2.2.2.2.1.toNatClampNeg)).toNatClampNeg (((p1 >>> (((8 : Int32) * x4).toInt64 &&& 63)) &&& (255 : Int64)).toInt32)))), (a_this_filled, .inl (k_this_filled, 10, .inl r_this_filled_L34))] H := hP
              have hD : va_D A [(a_this, oX8 a_this_bytes a_this_keys a_this_reg a_this_card a_this_filled a_this_taken a_this_line a_this_one a_this_two o_this), (a_this_card, .inl (k_this_card, 160, .inl (upd r_this_card_L34 (((16 : Int32) * o_this.2.2.2.2.2.2.2.2.2.2.2.2.2.2.2.2.2.2.2.2.1) + (r_this_filled_L34 o_this.2.2.2.2.2.2.2.2.2.2.2.2.2.2.2.2.2.2.2.2.1.toNatClampNeg)).toNatClampNeg (((p1 >>> (((8 : Int32) * x4).toInt64 &&& 63)) &&& (255 : Int64)).toInt32)))), (a_this_filled, .inl (k_this_filled, 10, .inl r_this_filled_L34))] := hD
              refine lv_aload_n hx hb dX8_punch_73 rfl (lv_at hl 1 rfl) ?_
              refine gf_X8_22 (v := .ref a_this_filled) hx hb hown ht hK hP 0 rfl rfl dX8_punch_74 ?_
              refine lv_aload_n hx hb dX8_punch_77 rfl (lv_at hl 1 rfl) ?_
              refine gf_X8_248 (v := .int o_this.2.2.2.2.2.2.2.2.2.2.2.2.2.2.2.2.2.2.2.2.1) hx hb hown ht hK hP 0 rfl rfl dX8_punch_78 ?_
              refine lv_dup2_11 hx hb dX8_punch_81 rfl rfl ?_
              obtain ⟨hi_9, hs⟩ := hs
              refine va_iald hx hb hK hP 2 1 rfl rfl hi_9 dX8_punch_82 ?_
              refine lv_iconst (v := 1) hx hb dX8_punch_83 (by decide) ?_
              refine lv_iadd hx hb dX8_punch_84 ?_
              obtain ⟨hi_10, hs⟩ := hs
              refine va_iast hx hb hK hP hD hS 2 1 rfl rfl hi_10 dX8_punch_85 (fun H locs hP hD hS => ?_)
              have hP : va_P D vwCl [(a_this, oX8 a_this_bytes a_this_keys a_this_reg a_this_card a_this_filled a_this_taken a_this_line a_this_one a_this_two o_this), (a_this_card, .inl (k_this_card, 160, .inl (upd r_this_card_L34 (((16 : Int32) * o_this.2.2.2.2.2.2.2.2.2.2.2.2.2.2.2.2.2.2.2.2.1) + (r_this_filled_L34 o_this.2.2.2.2.2.2.2.2.2.2.2.2.2.2.2.2.2.2.2.2.1.toNatClampNeg)).toNatClampNeg (((p1 >>> (((8 : Int32) * x4).toInt64 &&& 63)) &&& (255 : Int64)).toInt32)))), (a_this_filled, .inl (k_this_filled, 10, .inl (upd r_this_filled_L34 o_this.2.2.2.2.2.2.2.2.2.2.2.2.2.2.2.2.2.2.2.2.1.toNatClampNeg ((r_this_filled_L34 o_this.2.2.2.2.2.2.2.2.2.2.2.2.2.2.2.2.2.2.2.2.1.toNatClampNeg) + (1 : Int32)))))] H := hP
              have hD : va_D A [(a_this, oX8 a_this_bytes a_this_keys a_this_reg a_this_card a_this_filled a_this_taken a_this_line a_this_one a_this_two o_this), (a_this_card, .inl (k_this_card, 160, .inl (upd r_this_card_L34 (((16 : Int32) * o_this.2.2.2.2.2.2.2.2.2.2.2.2.2.2.2.2.2.2.2.2.1) + (r_this_filled_L34 o_this.2.2.2.2.2.2.2.2.2.2.2.2.2.2.2.2.2.2.2.2.1.toNatClampNeg)).toNatClampNeg (((p1 >>> (((8 : Int32) * x4).toInt64 &&& 63)) &&& (255 : Int64)).toInt32)))), (a_this_filled, .inl (k_this_filled, 10, .inl (upd r_this_filled_L34 o_this.2.2.2.2.2.2.2.2.2.2.2.2.2.2.2.2.2.2.2.2.1.toNatClampNeg ((r_this_filled_L34 o_this.2.2.2.2.2.2.2.2.2.2.2.2.2.2.2.2.2.2.2.2.1.toNatClampNeg) + (1 : Int32)))))] := hD
              refine lv_iinc (v := (x4 + ((-1) : Int32))) (lv' := [(4, .int (x4 + ((-1) : Int32))), (0, .ref a_this), (1, .long p1), (3, .int p2)]) hx hb dX8_punch_86 hl (k := 0) rfl rfl (by decide) rfl (fun ls hl => ?_)
              refine lv_goto (tgt := 34) hx hb dX8_punch_89 (by decide) ?_
              exact ih (upd r_this_card_L34 (((16 : Int32) * o_this.2.2.2.2.2.2.2.2.2.2.2.2.2.2.2.2.2.2.2.2.1) + (r_this_filled_L34 o_this.2.2.2.2.2.2.2.2.2.2.2.2.2.2.2.2.2.2.2.2.1.toNatClampNeg)).toNatClampNeg (((p1 >>> (((8 : Int32) * x4).toInt64 &&& 63)) &&& (255 : Int64)).toInt32)) (upd r_this_filled_L34 o_this.2.2.2.2.2.2.2.2.2.2.2.2.2.2.2.2.2.2.2.2.1.toNatClampNeg ((r_this_filled_L34 o_this.2.2.2.2.2.2.2.2.2.2.2.2.2.2.2.2.2.2.2.2.1.toNatClampNeg) + (1 : Int32))) (x4 + ((-1) : Int32)) _ _ _ (by first | exact q_dn hm c_1 | exact q_dn hm c_2 | exact q_dn hm c_4 | exact q_dn hm c_6)  hP hD hS (lv_sub hl [0, 1, 2, 3] rfl) hF hs
        exact L34 ((((p2 - (1 : Int32)) : Int32).toInt + 1).toNat + 1) r_this_card r_this_filled (p2 - (1 : Int32)) _ _ _ (Nat.lt_succ_self _)  hP hD hS (lv_sub hl [0, 1, 2, 3] rfl) hF hs
      · skip
        rw [if_neg c_4] at hF
        rw [if_neg c_4] at hs
        refine lv_iconst (v := 0) hx hb dX8_punch_27 (by decide) ?_
        exact hQ false (false, r_this_card, r_this_filled) _ _ _ _ dX8_punch_28 ⟨hF.symm, rfl⟩ hP hD hS
theorem cv_X8_punch : qV yX8_punch cX8_punch 5 (some .boolean) 2 := ⟨kc_X8_punch, kt_X8_punch, ks_X8_punch, kn_X8, by decide, by decide +kernel⟩
def f_X8_card (o_this : Int32 × Int32 × Int32 × Int32 × Bool × Bool × Int32 × Int32 × Int32 × Int32 × Bool × Bool × Bool × Int32 × Int32 × Int32 × Int32 × Int32 × Int32 × Int32 × Int32 × Int32 × Int32 × Int32 × Int32) (r_this_filled : Nat → Int32) : Bool × (Int32 × Int32 × Int32 × Int32 × Bool × Bool × Int32 × Int32 × Int32 × Int32 × Bool × Bool × Bool × Int32 × Int32 × Int32 × Int32 × Int32 × Int32 × Int32 × Int32 × Int32 × Int32 × Int32 × Int32) × (Nat → Int32) := (if o_this.2.2.2.2.2.2.2.2.2.2.2.2.2.2.2.2.2.2.2.2.1 = (8 : Int32) then (false, o_this, r_this_filled) else (q_let (o_this.2.2.2.2.2.2.2.2.2.2.2.2.2.2.2.2.2.2.2.2.1 + (1 : Int32)) fun y_2 => (true, (o_this.1, o_this.2.1, o_this.2.2.1, o_this.2.2.2.1, o_this.2.2.2.2.1, o_this.2.2.2.2.2.1, o_this.2.2.2.2.2.2.1, o_this.2.2.2.2.2.2.2.1, o_this.2.2.2.2.2.2.2.2.1, o_this.2.2.2.2.2.2.2.2.2.1, o_this.2.2.2.2.2.2.2.2.2.2.1, o_this.2.2.2.2.2.2.2.2.2.2.2.1, o_this.2.2.2.2.2.2.2.2.2.2.2.2.1, o_this.2.2.2.2.2.2.2.2.2.2.2.2.2.1, o_this.2.2.2.2.2.2.2.2.2.2.2.2.2.2.1, o_this.2.2.2.2.2.2.2.2.2.2.2.2.2.2.2.1, o_this.2.2.2.2.2.2.2.2.2.2.2.2.2.2.2.2.1, o_this.2.2.2.2.2.2.2.2.2.2.2.2.2.2.2.2.2.1, o_this.2.2.2.2.2.2.2.2.2.2.2.2.2.2.2.2.2.2.1, o_this.2.2.2.2.2.2.2.2.2.2.2.2.2.2.2.2.2.2.2.1, y_2, o_this.2.2.2.2.2.2.2.2.2.2.2.2.2.2.2.2.2.2.2.2.2.1, o_this.2.2.2.2.2.2.2.2.2.2.2.2.2.2.2.2.2.2.2.2.2.2.1, o_this.2.2.2.2.2.2.2.2.2.2.2.2.2.2.2.2.2.2.2.2.2.2.2.1, o_this.2.2.2.2.2.2.2.2.2.2.2.2.2.2.2.2.2.2.2.2.2.2.2.2), (upd r_this_filled y_2.toNatClampNeg 0))))
def s_X8_card (o_this : Int32 × Int32 × Int32 × Int32 × Bool × Bool × Int32 × Int32 × Int32 × Int32 × Bool × Bool × Bool × Int32 × Int32 × Int32 × Int32 × Int32 × Int32 × Int32 × Int32 × Int32 × Int32 × Int32 × Int32) : Prop := (if o_this.2.2.2.2.2.2.2.2.2.2.2.2.2.2.2.2.2.2.2.2.1 = (8 : Int32) then True else (q_let (o_this.2.2.2.2.2.2.2.2.2.2.2.2.2.2.2.2.2.2.2.2.1 + (1 : Int32)) fun y_2 => vp_in y_2 10))
set_option linter.all false in
set_option maxHeartbeats 4000000 in
set_option maxRecDepth 100000 in
theorem c_X8_card (l : Launch) (D : va_G) (a_this a_this_filled a_this_bytes a_this_keys a_this_reg a_this_card a_this_taken a_this_line a_this_one a_this_two : Nat) (k_this_filled : ClassId) (o_this : Int32 × Int32 × Int32 × Int32 × Bool × Bool × Int32 × Int32 × Int32 × Int32 × Bool × Bool × Bool × Int32 × Int32 × Int32 × Int32 × Int32 × Int32 × Int32 × Int32 × Int32 × Int32 × Int32 × Int32) (r_this_filled : Nat → Int32) (hs : s_X8_card o_this) : CtI l yX8_card cX8_card 1 (some .boolean) { frames := 0, cells := 0, slots := 0, locals := 0 } D [.ref a_this] [(a_this, oX8 a_this_bytes a_this_keys a_this_reg a_this_card a_this_filled a_this_taken a_this_line a_this_one a_this_two o_this), (a_this_filled, .inl (k_this_filled, 10, .inl r_this_filled))] [(k_this_filled, .int)] (fun (r : Int32) (u : Bool × (Int32 × Int32 × Int32 × Int32 × Bool × Bool × Int32 × Int32 × Int32 × Int32 × Bool × Bool × Bool × Int32 × Int32 × Int32 × Int32 × Int32 × Int32 × Int32 × Int32 × Int32 × Int32 × Int32 × Int32) × (Nat → Int32)) => f_X8_card o_this r_this_filled = u ∧ r = bI u.1) (fun u => [(a_this, oX8 a_this_bytes a_this_keys a_this_reg a_this_card a_this_filled a_this_taken a_this_line a_this_one a_this_two u.2.1), (a_this_filled, .inl (k_this_filled, 10, .inl u.2.2))]) := by
  refine CtI.ofZ (by decide) (Nat.le_of_ble_eq_true rfl) ?_
  intro p e s m below meth c A ls Q hE hP hD hS hl hQ
  obtain ⟨hx, hb, hml, hown, ht, hN, hK, hA⟩ := hE
  have hown : s.vm.findClass RX8 = some m.cls := hown
  have hl : lv_has ls 1 [(0, .ref a_this)] := hl
  obtain ⟨F, hF⟩ : ∃ F, f_X8_card o_this r_this_filled = F := ⟨_, rfl⟩
  rw [hF] at hQ
  unfold f_X8_card at hF
  unfold s_X8_card at hs
  refine lv_aload_n hx hb dX8_card_0 rfl (lv_at hl 0 rfl) ?_
  refine gf_X8_248 (v := .int o_this.2.2.2.2.2.2.2.2.2.2.2.2.2.2.2.2.2.2.2.2.1) hx hb hown ht hK hP 0 rfl rfl dX8_card_1 ?_
  refine lv_bipush (v := 8) hx hb dX8_card_4 (by decide) ?_
  refine lv_icmp_ne (tgt := 11) hx hb dX8_card_6 (by decide) (fun c_1 => ?_) (fun c_1 => ?_)
  · skip
    rw [if_neg c_1] at hF
    rw [if_neg c_1] at hs
    refine lv_aload_n hx hb dX8_card_11 rfl (lv_at hl 0 rfl) ?_
    refine lv_dup hx hb dX8_card_12 rfl ?_
    refine gf_X8_248 (v := .int o_this.2.2.2.2.2.2.2.2.2.2.2.2.2.2.2.2.2.2.2.2.1) hx hb hown ht hK hP 0 rfl rfl dX8_card_13 ?_
    refine lv_iconst (v := 1) hx hb dX8_card_16 (by decide) ?_
    refine lv_iadd hx hb dX8_card_17 ?_
    refine lv_topi (fun y_2 hy => ?_)
    rw [q_let_of hy.symm] at hF
    rw [q_let_of hy.symm] at hs
    clear hy
    refine pf_X8_248 (x := y_2) hx hb hown ht hK hP hD hS 0 rfl (Nat.le_of_ble_eq_true rfl) dX8_card_18 (fun H locs hP hD hS => ?_)
    have hP : va_P D vwCl [(a_this, oX8 a_this_bytes a_this_keys a_this_reg a_this_card a_this_filled a_this_taken a_this_line a_this_one a_this_two (o_this.1, o_this.2.1, o_this.2.2.1, o_this.2.2.2.1, o_this.2.2.2.2.1, o_this.2.2.2.2.2.1, o_this.2.2.2.2.2.2.1, o_this.2.2.2.2.2.2.2.1, o_this.2.2.2.2.2.2.2.2.1, o_this.2.2.2.2.2.2.2.2.2.1, o_this.2.2.2.2.2.2.2.2.2.2.1, o_this.2.2.2.2.2.2.2.2.2.2.2.1, o_this.2.2.2.2.2.2.2.2.2.2.2.2.1, o_this.2.2.2.2.2.2.2.2.2.2.2.2.2.1, o_this.2.2.2.2.2.2.2.2.2.2.2.2.2.2.1, o_this.2.2.2.2.2.2.2.2.2.2.2.2.2.2.2.1, o_this.2.2.2.2.2.2.2.2.2.2.2.2.2.2.2.2.1, o_this.2.2.2.2.2.2.2.2.2.2.2.2.2.2.2.2.2.1, o_this.2.2.2.2.2.2.2.2.2.2.2.2.2.2.2.2.2.2.1, o_this.2.2.2.2.2.2.2.2.2.2.2.2.2.2.2.2.2.2.2.1, y_2, o_this.2.2.2.2.2.2.2.2.2.2.2.2.2.2.2.2.2.2.2.2.2.1, o_this.2.2.2.2.2.2.2.2.2.2.2.2.2.2.2.2.2.2.2.2.2.2.1, o_this.2.2.2.2.2.2.2.2.2.2.2.2.2.2.2.2.2.2.2.2.2.2.2.1, o_this.2.2.2.2.2.2.2.2.2.2.2.2.2.2.2.2.2.2.2.2.2.2.2.2)), (a_this_filled, .inl (k_this_filled, 10, .inl r_this_filled))] H := hP
    have hD : va_D A [(a_this, oX8 a_this_bytes a_this_keys a_this_reg a_this_card a_this_filled a_this_taken a_this_line a_this_one a_this_two (o_this.1, o_this.2.1, o_this.2.2.1, o_this.2.2.2.1, o_this.2.2.2.2.1, o_this.2.2.2.2.2.1, o_this.2.2.2.2.2.2.1, o_this.2.2.2.2.2.2.2.1, o_this.2.2.2.2.2.2.2.2.1, o_this.2.2.2.2.2.2.2.2.2.1, o_this.2.2.2.2.2.2.2.2.2.2.1, o_this.2.2.2.2.2.2.2.2.2.2.2.1, o_this.2.2.2.2.2.2.2.2.2.2.2.2.1, o_this.2.2.2.2.2.2.2.2.2.2.2.2.2.1, o_this.2.2.2.2.2.2.2.2.2.2.2.2.2.2.1, o_this.2.2.2.2.2.2.2.2.2.2.2.2.2.2.2.1, o_this.2.2.2.2.2.2.2.2.2.2.2.2.2.2.2.2.1, o_this.2.2.2.2.2.2.2.2.2.2.2.2.2.2.2.2.2.1, o_this.2.2.2.2.2.2.2.2.2.2.2.2.2.2.2.2.2.2.1, o_this.2.2.2.2.2.2.2.2.2.2.2.2.2.2.2.2.2.2.2.1, y_2, o_this.2.2.2.2.2.2.2.2.2.2.2.2.2.2.2.2.2.2.2.2.2.1, o_this.2.2.2.2.2.2.2.2.2.2.2.2.2.2.2.2.2.2.2.2.2.2.1, o_this.2.2.2.2.2.2.2.2.2.2.2.2.2.2.2.2.2.2.2.2.2.2.2.1, o_this.2.2.2.2.2.2.2.2.2.2.2.2.2.2.2.2.2.2.2.2.2.2.2.2)), (a_this_filled, .inl (k_this_filled, 10, .inl r_this_filled))] := hD
    refine lv_aload_n hx hb dX8_card_21 rfl (lv_at hl 0 rfl) ?_
    refine gf_X8_22 (v := .ref a_this_filled) hx hb hown ht hK hP 0 rfl rfl dX8_card_22 ?_
    refine lv_aload_n hx hb dX8_card_25 rfl (lv_at hl 0 rfl) ?_
    refine gf_X8_248 (v := .int y_2) hx hb hown ht hK hP 0 rfl rfl dX8_card_26 ?_
    refine lv_iconst (v := 0) hx hb dX8_card_29 (by decide) ?_
    have hi_3 := hs
    refine va_iast hx hb hK hP hD hS 1 0 rfl rfl hi_3 dX8_card_30 (fun H locs hP hD hS => ?_)
    have hP : va_P D vwCl [(a_this, oX8 a_this_bytes a_this_keys a_this_reg a_this_card a_this_filled a_this_taken a_this_line a_this_one a_this_two (o_this.1, o_this.2.1, o_this.2.2.1, o_this.2.2.2.1, o_this.2.2.2.2.1, o_this.2.2.2.2.2.1, o_this.2.2.2.2.2.2.1, o_this.2.2.2.2.2.2.2.1, o_this.2.2.2.2.2.2.2.2.1, o_this.2.2.2.2.2.2.2.2.2.1, o_this.2.2.2.2.2.2.2.2.2.2.1, o_this.2.2.2.2.2.2.2.2.2.2.2.1, o_this.2.2.2.2.2.2.2.2.2.2.2.2.1, o_this.2.2.2.2.2.2.2.2.2.2.2.2.2.1, o_this.2.2.2.2.2.2.2.2.2.2.2.2.2.2.1, o_this.2.2.2.2.2.2.2.2.2.2.2.2.2.2.2.1, o_this.2.2.2.2.2.2.2.2.2.2.2.2.2.2.2.2.1, o_this.2.2.2.2.2.2.2.2.2.2.2.2.2.2.2.2.2.1, o_this.2.2.2.2.2.2.2.2.2.2.2.2.2.2.2.2.2.2.1, o_this.2.2.2.2.2.2.2.2.2.2.2.2.2.2.2.2.2.2.2.1, y_2, o_this.2.2.2.2.2.2.2.2.2.2.2.2.2.2.2.2.2.2.2.2.2.1, o_this.2.2.2.2.2.2.2.2.2.2.2.2.2.2.2.2.2.2.2.2.2.2.1, o_this.2.2.2.2.2.2.2.2.2.2.2.2.2.2.2.2.2.2.2.2.2.2.2.1, o_this.2.2.2.2.2.2.2.2.2.2.2.2.2.2.2.2.2.2.2.2.2.2.2.2)), (a_this_filled, .inl (k_this_filled, 10, .inl (upd r_this_filled y_2.toNatClampNeg 0)))] H := hP
    have hD : va_D A [(a_this, oX8 a_this_bytes a_this_keys a_this_reg a_this_card a_this_filled a_this_taken a_this_line a_this_one a_this_two (o_this.1, o_this.2.1, o_this.2.2.1, o_this.2.2.2.1, o_this.2.2.2.2.1, o_this.2.2.2.2.2.1, o_this.2.2.2.2.2.2.1, o_this.2.2.2.2.2.2.2.1, o_this.2.2.2.2.2.2.2.2.1, o_this.2.2.2.2.2.2.2.2.2.1, o_this.2.2.2.2.2.2.2.2.2.2.1, o_this.2.2.2.2.2.2.2.2.2.2.2.1, o_this.2.2.2.2.2.2.2.2.2.2.2.2.1, o_this.2.2.2.2.2.2.2.2.2.2.2.2.2.1, o_this.2.2.2.2.2.2.2.2.2.2.2.2.2.2.1, o_this.2.2.2.2.2.2.2.2.2.2.2.2.2.2.2.1, o_this.2.2.2.2.2.2.2.2.2.2.2.2.2.2.2.2.1, o_this.2.2.2.2.2.2.2.2.2.2.2.2.2.2.2.2.2.1, o_this.2.2.2.2.2.2.2.2.2.2.2.2.2.2.2.2.2.2.1, o_this.2.2.2.2.2.2.2.2.2.2.2.2.2.2.2.2.2.2.2.1, y_2, o_this.2.2.2.2.2.2.2.2.2.2.2.2.2.2.2.2.2.2.2.2.2.1, o_this.2.2.2.2.2.2.2.2.2.2.2.2.2.2.2.2.2.2.2.2.2.2.1, o_this.2.2.2.2.2.2.2.2.2.2.2.2.2.2.2.2.2.2.2.2.2.2.2.1, o_this.2.2.2.2.2.2.2.2.2.2.2.2.2.2.2.2.2.2.2.2.2.2.2.2)), (a_this_filled, .inl (k_this_filled, 10, .inl (upd r_this_filled y_2.toNatClampNeg 0)))] := hD
    refine lv_iconst (v := 1) hx hb dX8_card_31 (by decide) ?_
    exact hQ true (true, (o_this.1, o_this.2.1, o_this.2.2.1, o_this.2.2.2.1, o_this.2.2.2.2.1, o_this.2.2.2.2.2.1, o_this.2.2.2.2.2.2.1, o_this.2.2.2.2.2.2.2.1, o_this.2.2.2.2.2.2.2.2.1, o_this.2.2.2.2.2.2.2.2.2.1, o_this.2.2.2.2.2.2.2.2.2.2.1, o_this.2.2.2.2.2.2.2.2.2.2.2.1, o_this.2.2.2.2.2.2.2.2.2.2.2.2.1, o_this.2.2.2.2.2.2.2.2.2.2.2.2.2.1, o_this.2.2.2.2.2.2.2.2.2.2.2.2.2.2.1, o_this.2.2.2.2.2.2.2.2.2.2.2.2.2.2.2.1, o_this.2.2.2.2.2.2.2.2.2.2.2.2.2.2.2.2.1, o_this.2.2.2.2.2.2.2.2.2.2.2.2.2.2.2.2.2.1, o_this.2.2.2.2.2.2.2.2.2.2.2.2.2.2.2.2.2.2.1, o_this.2.2.2.2.2.2.2.2.2.2.2.2.2.2.2.2.2.2.2.1, y_2, o_this.2.2.2.2.2.2.2.2.2.2.2.2.2.2.2.2.2.2.2.2.2.1, o_this.2.2.2.2.2.2.2.2.2.2.2.2.2.2.2.2.2.2.2.2.2.2.1, o_this.2.2.2.2.2.2.2.2.2.2.2.2.2.2.2.2.2.2.2.2.2.2.2.1, o_this.2.2.2.2.2.2.2.2.2.2.2.2.2.2.2.2.2.2.2.2.2.2.2.2), (upd r_this_filled y_2.toNatClampNeg 0)) _ _ _ _ dX8_card_32 ⟨hF.symm, rfl⟩ hP hD hS
  · skip
    rw [if_pos c_1] at hF
    rw [if_pos c_1] at hs
    refine lv_iconst (v := 0) hx hb dX8_card_9 (by decide) ?_
    exact hQ false (false, o_this, r_this_filled) _ _ _ _ dX8_card_10 ⟨hF.symm, rfl⟩ hP hD hS
theorem cv_X8_card : qV yX8_card cX8_card 1 (some .boolean) 0 := ⟨kc_X8_card, kt_X8_card, ks_X8_card, kn_X8, by decide, by decide +kernel⟩
def f_X8_step_L17 (p1 : Int32) : Nat → (Int32 × Int32 × Int32 × Int32 × Bool × Bool × Int32 × Int32 × Int32 × Int32 × Bool × Bool × Bool × Int32 × Int32 × Int32 × Int32 × Int32 × Int32 × Int32 × Int32 × Int32 × Int32 × Int32 × Int32) → (Nat → Int32) → (Nat → Int32) → (Nat → Int32) → (Nat → Int32) → (Nat → Int32) → Int32 → Int32 → Int32 × (Int32 × Int32 × Int32 × Int32 × Bool × Bool × Int32 × Int32 × Int32 × Int32 × Bool × Bool × Bool × Int32 × Int32 × Int32 × Int32 × Int32 × Int32 × Int32 × Int32 × Int32 × Int32 × Int32 × Int32) × (Nat → Int32) × (Nat → Int32) × (Nat → Int32) × (Nat → Int32) × (Nat → Int32)
  | 0, o_this_L17, r_this_bytes_L17, r_this_keys_L17, r_this_one_L17, r_this_reg_L17, r_this_two_L17, x3, x2 => (0, o_this_L17, r_this_bytes_L17, r_this_keys_L17, r_this_one_L17, r_this_reg_L17, r_this_two_L17)
  | fuel + 1, o_this_L17, r_this_bytes_L17, r_this_keys_L17, r_this_one_L17, r_this_reg_L17, r_this_two_L17, x3, x2 => (if p1 ≤ x3 then (x2, o_this_L17, r_this_bytes_L17, r_this_keys_L17, r_this_one_L17, r_this_reg_L17, r_this_two_L17) else (q_let (f_X8_makeStep o_this_L17 r_this_bytes_L17 r_this_keys_L17 r_this_one_L17 r_this_reg_L17 r_this_two_L17) fun w_6 => f_X8_step_L17 p1 fuel w_6.2.1 w_6.2.2.1 w_6.2.2.2.1 w_6.2.2.2.2.1 w_6.2.2.2.2.2.1 w_6.2.2.2.2.2.2 (x3 + (1 : Int32)) (x2 + w_6.1)))
def s_X8_step_L17 (p1 : Int32) : Nat → (Int32 × Int32 × Int32 × Int32 × Bool × Bool × Int32 × Int32 × Int32 × Int32 × Bool × Bool × Bool × Int32 × Int32 × Int32 × Int32 × Int32 × Int32 × Int32 × Int32 × Int32 × Int32 × Int32 × Int32) → (Nat → Int32) → (Nat → Int32) → (Nat → Int32) → (Nat → Int32) → (Nat → Int32) → Int32 → Int32 → Prop
  | 0, _, _, _, _, _, _, _, _ => True
  | fuel + 1, o_this_L17, r_this_bytes_L17, r_this_keys_L17, r_this_one_L17, r_this_reg_L17, r_this_two_L17, x3, x2 => (if p1 ≤ x3 then True else (s_X8_makeStep o_this_L17 r_this_bytes_L17 r_this_keys_L17 r_this_one_L17 r_this_reg_L17 r_this_two_L17 ∧ (q_let (f_X8_makeStep o_this_L17 r_this_bytes_L17 r_this_keys_L17 r_this_one_L17 r_this_reg_L17 r_this_two_L17) fun w_6 => s_X8_step_L17 p1 fuel w_6.2.1 w_6.2.2.1 w_6.2.2.2.1 w_6.2.2.2.2.1 w_6.2.2.2.2.2.1 w_6.2.2.2.2.2.2 (x3 + (1 : Int32)) (x2 + w_6.1))))
def f_X8_step (o_this : Int32 × Int32 × Int32 × Int32 × Bool × Bool × Int32 × Int32 × Int32 × Int32 × Bool × Bool × Bool × Int32 × Int32 × Int32 × Int32 × Int32 × Int32 × Int32 × Int32 × Int32 × Int32 × Int32 × Int32) (r_this_bytes : Nat → Int32) (r_this_keys : Nat → Int32) (r_this_one : Nat → Int32) (r_this_reg : Nat → Int32) (r_this_two : Nat → Int32) (p1 : Int32) : Int32 × (Int32 × Int32 × Int32 × Int32 × Bool × Bool × Int32 × Int32 × Int32 × Int32 × Bool × Bool × Bool × Int32 × Int32 × Int32 × Int32 × Int32 × Int32 × Int32 × Int32 × Int32 × Int32 × Int32 × Int32) × (Nat → Int32) × (Nat → Int32) × (Nat → Int32) × (Nat → Int32) × (Nat → Int32) := (if p1 < (1 : Int32) then ((-1), o_this, r_this_bytes, r_this_keys, r_this_one, r_this_reg, r_this_two) else (if p1 ≤ (50 : Int32) then f_X8_step_L17 p1 (((p1 : Int32).toInt - (0 : Int32).toInt).toNat + 1) o_this r_this_bytes r_this_keys r_this_one r_this_reg r_this_two 0 0 else ((-1), o_this, r_this_bytes, r_this_keys, r_this_one, r_this_reg, r_this_two)))
def s_X8_step (o_this : Int32 × Int32 × Int32 × Int32 × Bool × Bool × Int32 × Int32 × Int32 × Int32 × Bool × Bool × Bool × Int32 × Int32 × Int32 × Int32 × Int32 × Int32 × Int32 × Int32 × Int32 × Int32 × Int32 × Int32) (r_this_bytes : Nat → Int32) (r_this_keys : Nat → Int32) (r_this_one : Nat → Int32) (r_this_reg : Nat → Int32) (r_this_two : Nat → Int32) (p1 : Int32) : Prop := (if p1 < (1 : Int32) then True else (if p1 ≤ (50 : Int32) then s_X8_step_L17 p1 (((p1 : Int32).toInt - (0 : Int32).toInt).toNat + 1) o_this r_this_bytes r_this_keys r_this_one r_this_reg r_this_two 0 0 else True))
set_option linter.all false in
set_option maxHeartbeats 4000000 in
set_option maxRecDepth 100000 in
theorem c_X8_step (l : Launch) (D : va_G) (a_this a_this_bytes a_this_keys a_this_one a_this_reg a_this_two a_this_card a_this_filled a_this_taken a_this_line : Nat) (k_this_bytes k_this_keys k_this_one k_this_reg k_this_two : ClassId) (o_this : Int32 × Int32 × Int32 × Int32 × Bool × Bool × Int32 × Int32 × Int32 × Int32 × Bool × Bool × Bool × Int32 × Int32 × Int32 × Int32 × Int32 × Int32 × Int32 × Int32 × Int32 × Int32 × Int32 × Int32) (r_this_bytes : Nat → Int32) (r_this_keys : Nat → Int32) (r_this_one : Nat → Int32) (r_this_reg : Nat → Int32) (r_this_two : Nat → Int32) (p1 : Int32) (hs : s_X8_step o_this r_this_bytes r_this_keys r_this_one r_this_reg r_this_two p1) : CtI l yX8_step cX8_step 4 (some .int) { frames := 7, cells := 0, slots := 0, locals := 166 } D [.ref a_this, .int p1] [(a_this, oX8 a_this_bytes a_this_keys a_this_reg a_this_card a_this_filled a_this_taken a_this_line a_this_one a_this_two o_this), (a_this_bytes, .inl (k_this_bytes, 2048, .inl r_this_bytes)), (a_this_keys, .inl (k_this_keys, 8, .inl r_this_keys)), (a_this_one, .inl (k_this_one, 40, .inl r_this_one)), (a_this_reg, .inl (k_this_reg, 16, .inl r_this_reg)), (a_this_two, .inl (k_this_two, 40, .inl r_this_two))] [(k_this_bytes, .int), (k_this_keys, .int), (k_this_one, .int), (k_this_reg, .int), (k_this_two, .int)] (fun (r : Int32) (u : Int32 × (Int32 × Int32 × Int32 × Int32 × Bool × Bool × Int32 × Int32 × Int32 × Int32 × Bool × Bool × Bool × Int32 × Int32 × Int32 × Int32 × Int32 × Int32 × Int32 × Int32 × Int32 × Int32 × Int32 × Int32) × (Nat → Int32) × (Nat → Int32) × (Nat → Int32) × (Nat → Int32) × (Nat → Int32)) => f_X8_step o_this r_this_bytes r_this_keys r_this_one r_this_reg r_this_two p1 = u ∧ r = u.1) (fun u => [(a_this, oX8 a_this_bytes a_this_keys a_this_reg a_this_card a_this_filled a_this_taken a_this_line a_this_one a_this_two u.2.1), (a_this_bytes, .inl (k_this_bytes, 2048, .inl u.2.2.1)), (a_this_keys, .inl (k_this_keys, 8, .inl u.2.2.2.1)), (a_this_one, .inl (k_this_one, 40, .inl u.2.2.2.2.1)), (a_this_reg, .inl (k_this_reg, 16, .inl u.2.2.2.2.2.1)), (a_this_two, .inl (k_this_two, 40, .inl u.2.2.2.2.2.2))]) := by
  refine CtI.of (by decide) (Nat.le_of_ble_eq_true rfl) ?_
  intro p e s m below meth c A ls Q hE hP hD hS hl hQ
  obtain ⟨hx, hb, hml, hown, ht, hN, hK, hA⟩ := hE
  have hown : s.vm.findClass RX8 = some m.cls := hown
  have hl : lv_has ls 4 [(0, .ref a_this), (1, .int p1)] := hl
  obtain ⟨F, hF⟩ : ∃ F, f_X8_step o_this r_this_bytes r_this_keys r_this_one r_this_reg r_this_two p1 = F := ⟨_, rfl⟩
  rw [hF] at hQ
  unfold f_X8_step at hF
  unfold s_X8_step at hs
  refine lv_iload_n hx hb dX8_step_0 rfl (lv_at hl 1 rfl) ?_
  refine lv_iconst (v := 1) hx hb dX8_step_1 (by decide) ?_
  refine lv_icmp_lt (tgt := 11) hx hb dX8_step_2 (by decide) (fun c_1 => ?_) (fun c_1 => ?_)
  · skip
    rw [if_pos c_1] at hF
    rw [if_pos c_1] at hs
    refine lv_iconst (v := (-1)) hx hb dX8_step_11 (by decide) ?_
    exact hQ (-1) ((-1), o_this, r_this_bytes, r_this_keys, r_this_one, r_this_reg, r_this_two) _ _ _ _ dX8_step_12 ⟨hF.symm, rfl⟩ hP hD hS
  · skip
    rw [if_neg c_1] at hF
    rw [if_neg c_1] at hs
    refine lv_iload_n hx hb dX8_step_5 rfl (lv_at hl 1 rfl) ?_
    refine lv_bipush (v := 50) hx hb dX8_step_6 (by decide) ?_
    refine lv_icmp_le (tgt := 13) hx hb dX8_step_8 (by decide) (fun c_2 => ?_) (fun c_2 => ?_)
    · skip
      rw [if_pos c_2] at hF
      rw [if_pos c_2] at hs
      refine lv_iconst (v := 0) hx hb dX8_step_13 (by decide) ?_
      refine lv_istore_n (lv' := [(2, .int 0), (0, .ref a_this), (1, .int p1)]) hx hb dX8_step_14 rfl hl (by decide) rfl (fun ls hl => ?_)
      refine lv_iconst (v := 0) hx hb dX8_step_15 (by decide) ?_
      refine lv_istore_n (lv' := [(3, .int 0), (2, .int 0), (0, .ref a_this), (1, .int p1)]) hx hb dX8_step_16 rfl hl (by decide) rfl (fun ls hl => ?_)
      have L17 : ∀ (fuel : Nat) (o_this_L17 : Int32 × Int32 × Int32 × Int32 × Bool × Bool × Int32 × Int32 × Int32 × Int32 × Bool × Bool × Bool × Int32 × Int32 × Int32 × Int32 × Int32 × Int32 × Int32 × Int32 × Int32 × Int32 × Int32 × Int32) (r_this_bytes_L17 : Nat → Int32) (r_this_keys_L17 : Nat → Int32) (r_this_one_L17 : Nat → Int32) (r_this_reg_L17 : Nat → Int32) (r_this_two_L17 : Nat → Int32) (x3 : Int32) (x2 : Int32) (H : Heap) (locs : List Loc) (ls : Array Slot), ((p1 : Int32).toInt - (x3 : Int32).toInt).toNat < fuel → va_P D vwCl [(a_this, oX8 a_this_bytes a_this_keys a_this_reg a_this_card a_this_filled a_this_taken a_this_line a_this_one a_this_two o_this_L17), (a_this_bytes, .inl (k_this_bytes, 2048, .inl r_this_bytes_L17)), (a_this_keys, .inl (k_this_keys, 8, .inl r_this_keys_L17)), (a_this_one, .inl (k_this_one, 40, .inl r_this_one_L17)), (a_this_reg, .inl (k_this_reg, 16, .inl r_this_reg_L17)), (a_this_two, .inl (k_this_two, 40, .inl r_this_two_L17))] H → va_D A [(a_this, oX8 a_this_bytes a_this_keys a_this_reg a_this_card a_this_filled a_this_taken a_this_line a_this_one a_this_two o_this_L17), (a_this_bytes, .inl (k_this_bytes, 2048, .inl r_this_bytes_L17)), (a_this_keys, .inl (k_this_keys, 8, .inl r_this_keys_L17)), (a_this_one, .inl (k_this_one, 40, .inl r_this_one_L17)), (a_this_reg, .inl (k_this_reg, 16, .inl r_this_reg_L17)), (a_this_two, .inl (k_this_two, 40, .inl r_this_two_L17))] → va_S A s.heap H locs → lv_has ls 4 [(3, .int x3), (2, .int x2), (0, .ref a_this), (1, .int p1)] → f_X8_step_L17 p1 fuel o_this_L17 r_this_bytes_L17 r_this_keys_L17 r_this_one_L17 r_this_reg_L17 r_this_two_L17 x3 x2 = F → s_X8_step_L17 p1 fuel o_this_L17 r_this_bytes_L17 r_this_keys_L17 r_this_one_L17 r_this_reg_L17 r_this_two_L17 x3 x2 → W p l e ({ frames := 7, cells := 0, slots := 0, locals := 166 } : Room) s m ([.ref a_this, .int p1] : List Value).toArray below meth c H locs 0 0 Q (F0 m 17 ls []) := by
        intro fuel
        induction fuel with
        | zero => intro o_this_L17 r_this_bytes_L17 r_this_keys_L17 r_this_one_L17 r_this_reg_L17 r_this_two_L17 x3 x2 H locs ls hm; exact absurd hm (Nat.not_lt_zero _)
        | succ fuel ih =>
          intro o_this_L17 r_this_bytes_L17 r_this_keys_L17 r_this_one_L17 r_this_reg_L17 r_this_two_L17 x3 x2 H locs ls hm  hP hD hS hl hF hs
          rw [f_X8_step_L17] at hF
          rw [s_X8_step_L17] at hs
          skip
          refine lv_iload_n hx hb dX8_step_17 rfl (lv_at hl 0 rfl) ?_
          refine lv_iload_n hx hb dX8_step_18 rfl (lv_at hl 3 rfl) ?_
          refine lv_icmp_ge (tgt := 35) hx hb dX8_step_19 (by decide) (fun c_4 => ?_) (fun c_4 => ?_)
          · skip
            rw [if_pos c_4] at hF
            rw [if_pos c_4] at hs
            refine lv_iload_n hx hb dX8_step_35 rfl (lv_at hl 1 rfl) ?_
            exact hQ x2 (x2, o_this_L17, r_this_bytes_L17, r_this_keys_L17, r_this_one_L17, r_this_reg_L17, r_this_two_L17) _ _ _ _ dX8_step_36 ⟨hF.symm, rfl⟩ hP hD hS
          · skip
            rw [if_neg c_4] at hF
            rw [if_neg c_4] at hs
            refine lv_iload_n hx hb dX8_step_22 rfl (lv_at hl 1 rfl) ?_
            refine lv_aload_n hx hb dX8_step_23 rfl (lv_at hl 2 rfl) ?_
            obtain ⟨hi_5, hs⟩ := hs
            refine q_Vi (rest := [.int x2]) (c_X8_makeStep l D a_this a_this_bytes a_this_keys a_this_one a_this_reg a_this_two a_this_card a_this_filled a_this_taken a_this_line k_this_bytes k_this_keys k_this_one k_this_reg k_this_two o_this_L17 r_this_bytes_L17 r_this_keys_L17 r_this_one_L17 r_this_reg_L17 r_this_two_L17 hi_5) cv_X8_makeStep hx hb hml hown ht hN hK hA hP hD hS hl.1 (km_X8_262) ⟨Nat.le_of_ble_eq_true rfl, Nat.le_of_ble_eq_true rfl⟩ rfl rfl [0, 1, 2, 3, 4, 5] (by decide) rfl [0, 1, 2, 3, 4] rfl (fun _ => rfl) (ci := 8) rfl rfl rfl rfl rfl (Nat.le_of_ble_eq_true rfl) dX8_step_24 ⟨Nat.zero_le _, Nat.zero_le _⟩ (fun r w_6 H locs hw hP hD hS => ?_)
            obtain ⟨hw, hr⟩ := hw
            subst hr
            have hP : va_P D vwCl [(a_this, oX8 a_this_bytes a_this_keys a_this_reg a_this_card a_this_filled a_this_taken a_this_line a_this_one a_this_two w_6.2.1), (a_this_bytes, .inl (k_this_bytes, 2048, .inl w_6.2.2.1)), (a_this_keys, .inl (k_this_keys, 8, .inl w_6.2.2.2.1)), (a_this_one, .inl (k_this_one, 40, .inl w_6.2.2.2.2.1)), (a_this_reg, .inl (k_this_reg, 16, .inl w_6.2.2.2.2.2.1)), (a_this_two, .inl (k_this_two, 40, .inl w_6.2.2.2.2.2.2))] H := hP
            have hD : va_D A [(a_this, oX8 a_this_bytes a_this_keys a_this_reg a_this_card a_this_filled a_this_taken a_this_line a_this_one a_this_two w_6.2.1), (a_this_bytes, .inl (k_this_bytes, 2048, .inl w_6.2.2.1)), (a_this_keys, .inl (k_this_keys, 8, .inl w_6.2.2.2.1)), (a_this_one, .inl (k_this_one, 40, .inl w_6.2.2.2.2.1)), (a_this_reg, .inl (k_this_reg, 16, .inl w_6.2.2.2.2.2.1)), (a_this_two, .inl (k_this_two, 40, .inl w_6.2.2.2.2.2.2))] := hD
            rw [q_let_of hw] at hF
            rw [q_let_of hw] at hs
            refine lv_iadd hx hb dX8_step_27 ?_
            refine lv_istore_n (lv' := [(2, .int (x2 + w_6.1)), (3, .int x3), (0, .ref a_this), (1, .int p1)]) hx hb dX8_step_28 rfl hl (by decide) rfl (fun ls hl => ?_)
            refine lv_iinc (v := (x3 + (1 : Int32))) (lv' := [(3, .int (x3 + (1 : Int32))), (2, .int (x2 + w_6.1)), (0, .ref a_this), (1, .int p1)]) hx hb dX8_step_29 hl (k := 1) rfl rfl (by decide) rfl (fun ls hl => ?_)
            refine lv_goto (tgt := 17) hx hb dX8_step_32 (by decide) ?_
            exact ih w_6.2.1 w_6.2.2.1 w_6.2.2.2.1 w_6.2.2.2.2.1 w_6.2.2.2.2.2.1 w_6.2.2.2.2.2.2 (x3 + (1 : Int32)) (x2 + w_6.1) _ _ _ (by first | exact q_up hm c_1 | exact q_up hm c_2 | exact q_up hm c_4)  hP hD hS (lv_sub hl [0, 1, 2, 3] rfl) hF hs
      exact L17 (((p1 : Int32).toInt - (0 : Int32).toInt).toNat + 1) o_this r_this_bytes r_this_keys r_this_one r_this_reg r_this_two 0 0 _ _ _ (Nat.lt_succ_self _)  hP hD hS (lv_sub hl [0, 1, 2, 3] rfl) hF hs
    · skip
      rw [if_neg c_2] at hF
      rw [if_neg c_2] at hs
      refine lv_iconst (v := (-1)) hx hb dX8_step_11 (by decide) ?_
      exact hQ (-1) ((-1), o_this, r_this_bytes, r_this_keys, r_this_one, r_this_reg, r_this_two) _ _ _ _ dX8_step_12 ⟨hF.symm, rfl⟩ hP hD hS
theorem cv_X8_step : qV yX8_step cX8_step 4 (some .int) 1 := ⟨kc_X8_step, kt_X8_step, ks_X8_step, kn_X8, by decide, by decide +kernel⟩
def f_X8_channel_L15 (r_this_keys : Nat → Int32) (p1 : Int32) : Nat → (Int32 × Int32 × Int32 × Int32 × Bool × Bool × Int32 × Int32 × Int32 × Int32 × Bool × Bool × Bool × Int32 × Int32 × Int32 × Int32 × Int32 × Int32 × Int32 × Int32 × Int32 × Int32 × Int32 × Int32) → (Nat → Int32) → (Nat → Int32) → (Nat → Int32) → (Nat → Int32) → (Nat → Int32) → Int32 → Int32 × (Int32 × Int32 × Int32 × Int32 × Bool × Bool × Int32 × Int32 × Int32 × Int32 × Bool × Bool × Bool × Int32 × Int32 × Int32 × Int32 × Int32 × Int32 × Int32 × Int32 × Int32 × Int32 × Int32 × Int32) × (Nat → Int32) × (Nat → Int32) × (Nat → Int32) × (Nat → Int32) × (Nat → Int32)
  | 0, o_this_L15, r_this_bytes_L15, r_this_card_L15, r_this_filled_L15, r_this_line_L15, r_this_taken_L15, x2 => (0, o_this_L15, r_this_bytes_L15, r_this_card_L15, r_this_filled_L15, r_this_line_L15, r_this_taken_L15)
  | fuel + 1, o_this_L15, r_this_bytes_L15, r_this_card_L15, r_this_filled_L15, r_this_line_L15, r_this_taken_L15, x2 => (if p1 ≤ x2 then (x2, o_this_L15, r_this_bytes_L15, r_this_card_L15, r_this_filled_L15, r_this_line_L15, r_this_taken_L15) else (if o_this_L15.2.2.2.2.2.2.2.2.2.2.1 = true then (if o_this_L15.2.2.2.2.2.2.2.2.2.2.2.2.2.2.2.2.1 = 0 then (q_let (f_X8_take o_this_L15 r_this_bytes_L15 r_this_card_L15 r_this_filled_L15 r_this_taken_L15) fun w_10 => f_X8_channel_L15 r_this_keys p1 fuel w_10.1 w_10.2.1 w_10.2.2.1 w_10.2.2.2.1 r_this_line_L15 w_10.2.2.2.2 (x2 + (1 : Int32))) else (q_let (f_X8_move o_this_L15 r_this_bytes_L15 r_this_keys r_this_line_L15 r_this_taken_L15) fun w_8 => f_X8_channel_L15 r_this_keys p1 fuel w_8.1 w_8.2.1 r_this_card_L15 r_this_filled_L15 w_8.2.2 r_this_taken_L15 (x2 + (1 : Int32)))) else (x2, o_this_L15, r_this_bytes_L15, r_this_card_L15, r_this_filled_L15, r_this_line_L15, r_this_taken_L15)))
def s_X8_channel_L15 (r_this_keys : Nat → Int32) (p1 : Int32) : Nat → (Int32 × Int32 × Int32 × Int32 × Bool × Bool × Int32 × Int32 × Int32 × Int32 × Bool × Bool × Bool × Int32 × Int32 × Int32 × Int32 × Int32 × Int32 × Int32 × Int32 × Int32 × Int32 × Int32 × Int32) → (Nat → Int32) → (Nat → Int32) → (Nat → Int32) → (Nat → Int32) → (Nat → Int32) → Int32 → Prop
  | 0, _, _, _, _, _, _, _ => True
  | fuel + 1, o_this_L15, r_this_bytes_L15, r_this_card_L15, r_this_filled_L15, r_this_line_L15, r_this_taken_L15, x2 => (if p1 ≤ x2 then True else (if o_this_L15.2.2.2.2.2.2.2.2.2.2.1 = true then (if o_this_L15.2.2.2.2.2.2.2.2.2.2.2.2.2.2.2.2.1 = 0 then (s_X8_take o_this_L15 r_this_bytes_L15 r_this_card_L15 r_this_filled_L15 r_this_taken_L15 ∧ (q_let (f_X8_take o_this_L15 r_this_bytes_L15 r_this_card_L15 r_this_filled_L15 r_this_taken_L15) fun w_10 => s_X8_channel_L15 r_this_keys p1 fuel w_10.1 w_10.2.1 w_10.2.2.1 w_10.2.2.2.1 r_this_line_L15 w_10.2.2.2.2 (x2 + (1 : Int32)))) else (s_X8_move o_this_L15 r_this_bytes_L15 r_this_keys r_this_taken_L15 ∧ (q_let (f_X8_move o_this_L15 r_this_bytes_L15 r_this_keys r_this_line_L15 r_this_taken_L15) fun w_8 => s_X8_channel_L15 r_this_keys p1 fuel w_8.1 w_8.2.1 r_this_card_L15 r_this_filled_L15 w_8.2.2 r_this_taken_L15 (x2 + (1 : Int32))))) else True))
def f_X8_channel (o_this : Int32 × Int32 × Int32 × Int32 × Bool × Bool × Int32 × Int32 × Int32 × Int32 × Bool × Bool × Bool × Int32 × Int32 × Int32 × Int32 × Int32 × Int32 × Int32 × Int32 × Int32 × Int32 × Int32 × Int32) (r_this_bytes : Nat → Int32) (r_this_card : Nat → Int32) (r_this_filled : Nat → Int32) (r_this_keys : Nat → Int32) (r_this_line : Nat → Int32) (r_this_taken : Nat → Int32) (p1 : Int32) : Int32 × (Int32 × Int32 × Int32 × Int32 × Bool × Bool × Int32 × Int32 × Int32 × Int32 × Bool × Bool × Bool × Int32 × Int32 × Int32 × Int32 × Int32 × Int32 × Int32 × Int32 × Int32 × Int32 × Int32 × Int32) × (Nat → Int32) × (Nat → Int32) × (Nat → Int32) × (Nat → Int32) × (Nat → Int32) := (if p1 < (1 : Int32) then ((-1), o_this, r_this_bytes, r_this_card, r_this_filled, r_this_line, r_this_taken) else (if p1 ≤ (50 : Int32) then f_X8_channel_L15 r_this_keys p1 (((p1 : Int32).toInt - (0 : Int32).toInt).toNat + 1) o_this r_this_bytes r_this_card r_this_filled r_this_line r_this_taken 0 else ((-1), o_this, r_this_bytes, r_this_card, r_this_filled, r_this_line, r_this_taken)))
def s_X8_channel (o_this : Int32 × Int32 × Int32 × Int32 × Bool × Bool × Int32 × Int32 × Int32 × Int32 × Bool × Bool × Bool × Int32 × Int32 × Int32 × Int32 × Int32 × Int32 × Int32 × Int32 × Int32 × Int32 × Int32 × Int32) (r_this_bytes : Nat → Int32) (r_this_card : Nat → Int32) (r_this_filled : Nat → Int32) (r_this_keys : Nat → Int32) (r_this_line : Nat → Int32) (r_this_taken : Nat → Int32) (p1 : Int32) : Prop := (if p1 < (1 : Int32) then True else (if p1 ≤ (50 : Int32) then s_X8_channel_L15 r_this_keys p1 (((p1 : Int32).toInt - (0 : Int32).toInt).toNat + 1) o_this r_this_bytes r_this_card r_this_filled r_this_line r_this_taken 0 else True))
set_option linter.all false in
set_option maxHeartbeats 4000000 in
set_option maxRecDepth 100000 in
theorem c_X8_channel (l : Launch) (D : va_G) (a_this a_this_bytes a_this_card a_this_filled a_this_keys a_this_line a_this_taken a_this_reg a_this_one a_this_two : Nat) (k_this_bytes k_this_card k_this_filled k_this_keys k_this_line k_this_taken : ClassId) (o_this : Int32 × Int32 × Int32 × Int32 × Bool × Bool × Int32 × Int32 × Int32 × Int32 × Bool × Bool × Bool × Int32 × Int32 × Int32 × Int32 × Int32 × Int32 × Int32 × Int32 × Int32 × Int32 × Int32 × Int32) (r_this_bytes : Nat → Int32) (r_this_card : Nat → Int32) (r_this_filled : Nat → Int32) (r_this_keys : Nat → Int32) (r_this_line : Nat → Int32) (r_this_taken : Nat → Int32) (p1 : Int32) (hs : s_X8_channel o_this r_this_bytes r_this_card r_this_filled r_this_keys r_this_line r_this_taken p1) : CtI l yX8_channel cX8_channel 3 (some .int) { frames := 5, cells := 0, slots := 0, locals := 112 } D [.ref a_this, .int p1] [(a_this, oX8 a_this_bytes a_this_keys a_this_reg a_this_card a_this_filled a_this_taken a_this_line a_this_one a_this_two o_this), (a_this_bytes, .inl (k_this_bytes, 2048, .inl r_this_bytes)), (a_this_card, .inl (k_this_card, 160, .inl r_this_card)), (a_this_filled, .inl (k_this_filled, 10, .inl r_this_filled)), (a_this_keys, .inl (k_this_keys, 8, .inl r_this_keys)), (a_this_line, .inl (k_this_line, 32, .inl r_this_line)), (a_this_taken, .inl (k_this_taken, 16, .inl r_this_taken))] [(k_this_bytes, .int), (k_this_card, .int), (k_this_filled, .int), (k_this_keys, .int), (k_this_line, .int), (k_this_taken, .int)] (fun (r : Int32) (u : Int32 × (Int32 × Int32 × Int32 × Int32 × Bool × Bool × Int32 × Int32 × Int32 × Int32 × Bool × Bool × Bool × Int32 × Int32 × Int32 × Int32 × Int32 × Int32 × Int32 × Int32 × Int32 × Int32 × Int32 × Int32) × (Nat → Int32) × (Nat → Int32) × (Nat → Int32) × (Nat → Int32) × (Nat → Int32)) => f_X8_channel o_this r_this_bytes r_this_card r_this_filled r_this_keys r_this_line r_this_taken p1 = u ∧ r = u.1) (fun u => [(a_this, oX8 a_this_bytes a_this_keys a_this_reg a_this_card a_this_filled a_this_taken a_this_line a_this_one a_this_two u.2.1), (a_this_bytes, .inl (k_this_bytes, 2048, .inl u.2.2.1)), (a_this_card, .inl (k_this_card, 160, .inl u.2.2.2.1)), (a_this_filled, .inl (k_this_filled, 10, .inl u.2.2.2.2.1)), (a_this_keys, .inl (k_this_keys, 8, .inl r_this_keys)), (a_this_line, .inl (k_this_line, 32, .inl u.2.2.2.2.2.1)), (a_this_taken, .inl (k_this_taken, 16, .inl u.2.2.2.2.2.2))]) := by
  refine CtI.of (by decide) (Nat.le_of_ble_eq_true rfl) ?_
  intro p e s m below meth c A ls Q hE hP hD hS hl hQ
  obtain ⟨hx, hb, hml, hown, ht, hN, hK, hA⟩ := hE
  have hown : s.vm.findClass RX8 = some m.cls := hown
  have hl : lv_has ls 3 [(0, .ref a_this), (1, .int p1)] := hl
  obtain ⟨F, hF⟩ : ∃ F, f_X8_channel o_this r_this_bytes r_this_card r_this_filled r_this_keys r_this_line r_this_taken p1 = F := ⟨_, rfl⟩
  rw [hF] at hQ
  unfold f_X8_channel at hF
  unfold s_X8_channel at hs
  refine lv_iload_n hx hb dX8_channel_0 rfl (lv_at hl 1 rfl) ?_
  refine lv_iconst (v := 1) hx hb dX8_channel_1 (by decide) ?_
  refine lv_icmp_lt (tgt := 11) hx hb dX8_channel_2 (by decide) (fun c_1 => ?_) (fun c_1 => ?_)
  · skip
    rw [if_pos c_1] at hF
    rw [if_pos c_1] at hs
    refine lv_iconst (v := (-1)) hx hb dX8_channel_11 (by decide) ?_
    exact hQ (-1) ((-1), o_this, r_this_bytes, r_this_card, r_this_filled, r_this_line, r_this_taken) _ _ _ _ dX8_channel_12 ⟨hF.symm, rfl⟩ hP hD hS
  · skip
    rw [if_neg c_1] at hF
    rw [if_neg c_1] at hs
    refine lv_iload_n hx hb dX8_channel_5 rfl (lv_at hl 1 rfl) ?_
    refine lv_bipush (v := 50) hx hb dX8_channel_6 (by decide) ?_
    refine lv_icmp_le (tgt := 13) hx hb dX8_channel_8 (by decide) (fun c_2 => ?_) (fun c_2 => ?_)
    · skip
      rw [if_pos c_2] at hF
      rw [if_pos c_2] at hs
      refine lv_iconst (v := 0) hx hb dX8_channel_13 (by decide) ?_
      refine lv_istore_n (lv' := [(2, .int 0), (0, .ref a_this), (1, .int p1)]) hx hb dX8_channel_14 rfl hl (by decide) rfl (fun ls hl => ?_)
      have L15 : ∀ (fuel : Nat) (o_this_L15 : Int32 × Int32 × Int32 × Int32 × Bool × Bool × Int32 × Int32 × Int32 × Int32 × Bool × Bool × Bool × Int32 × Int32 × Int32 × Int32 × Int32 × Int32 × Int32 × Int32 × Int32 × Int32 × Int32 × Int32) (r_this_bytes_L15 : Nat → Int32) (r_this_card_L15 : Nat → Int32) (r_this_filled_L15 : Nat → Int32) (r_this_line_L15 : Nat → Int32) (r_this_taken_L15 : Nat → Int32) (x2 : Int32) (H : Heap) (locs : List Loc) (ls : Array Slot), ((p1 : Int32).toInt - (x2 : Int32).toInt).toNat < fuel → va_P D vwCl [(a_this, oX8 a_this_bytes a_this_keys a_this_reg a_this_card a_this_filled a_this_taken a_this_line a_this_one a_this_two o_this_L15), (a_this_bytes, .inl (k_this_bytes, 2048, .inl r_this_bytes_L15)), (a_this_card, .inl (k_this_card, 160, .inl r_this_card_L15)), (a_this_filled, .inl (k_this_filled, 10, .inl r_this_filled_L15)), (a_this_keys, .inl (k_this_keys, 8, .inl r_this_keys)), (a_this_line, .inl (k_this_line, 32, .inl r_this_line_L15)), (a_this_taken, .inl (k_this_taken, 16, .inl r_this_taken_L15))] H → va_D A [(a_this, oX8 a_this_bytes a_this_keys a_this_reg a_this_card a_this_filled a_this_taken a_this_line a_this_one a_this_two o_this_L15), (a_this_bytes, .inl (k_this_bytes, 2048, .inl r_this_bytes_L15)), (a_this_card, .inl (k_this_card, 160, .inl r_this_card_L15)), (a_this_filled, .inl (k_this_filled, 10, .inl r_this_filled_L15)), (a_this_keys, .inl (k_this_keys, 8, .inl r_this_keys)), (a_this_line, .inl (k_this_line, 32, .inl r_this_line_L15)), (a_this_taken, .inl (k_this_taken, 16, .inl r_this_taken_L15))] → va_S A s.heap H locs → lv_has ls 3 [(2, .int x2), (0, .ref a_this), (1, .int p1)] → f_X8_channel_L15 r_this_keys p1 fuel o_this_L15 r_this_bytes_L15 r_this_card_L15 r_this_filled_L15 r_this_line_L15 r_this_taken_L15 x2 = F → s_X8_channel_L15 r_this_keys p1 fuel o_this_L15 r_this_bytes_L15 r_this_card_L15 r_this_filled_L15 r_this_line_L15 r_this_taken_L15 x2 → W p l e ({ frames := 5, cells := 0, slots := 0, locals := 112 } : Room) s m ([.ref a_this, .int p1] : List Value).toArray below meth c H locs 0 0 Q (F0 m 15 ls []) := by
        intro fuel
        induction fuel with
        | zero => intro o_this_L15 r_this_bytes_L15 r_this_card_L15 r_this_filled_L15 r_this_line_L15 r_this_taken_L15 x2 H locs ls hm; exact absurd hm (Nat.not_lt_zero _)
        | succ fuel ih =>
          intro o_this_L15 r_this_bytes_L15 r_this_card_L15 r_this_filled_L15 r_this_line_L15 r_this_taken_L15 x2 H locs ls hm  hP hD hS hl hF hs
          rw [f_X8_channel_L15] at hF
          rw [s_X8_channel_L15] at hs
          skip
          refine lv_iload_n hx hb dX8_channel_15 rfl (lv_at hl 0 rfl) ?_
          refine lv_iload_n hx hb dX8_channel_16 rfl (lv_at hl 2 rfl) ?_
          refine lv_icmp_ge (tgt := 51) hx hb dX8_channel_17 (by decide) (fun c_4 => ?_) (fun c_4 => ?_)
          · skip
            rw [if_pos c_4] at hF
            rw [if_pos c_4] at hs
            refine lv_iload_n hx hb dX8_channel_51 rfl (lv_at hl 0 rfl) ?_
            exact hQ x2 (x2, o_this_L15, r_this_bytes_L15, r_this_card_L15, r_this_filled_L15, r_this_line_L15, r_this_taken_L15) _ _ _ _ dX8_channel_52 ⟨hF.symm, rfl⟩ hP hD hS
          · skip
            rw [if_neg c_4] at hF
            rw [if_neg c_4] at hs
            refine lv_aload_n hx hb dX8_channel_20 rfl (lv_at hl 1 rfl) ?_
            refine gf_X8_193 (v := .int (bI o_this_L15.2.2.2.2.2.2.2.2.2.2.1)) hx hb hown ht hK hP 0 rfl rfl dX8_channel_21 ?_
            refine lv_if_eq (tgt := 51) hx hb dX8_channel_24 (by decide) (fun c_5 => ?_) (fun c_5 => ?_)
            · have c_5 : ¬ o_this_L15.2.2.2.2.2.2.2.2.2.2.1 = true := by rw [(bI_eq0 _).mp c_5]; decide
              rw [if_neg c_5] at hF
              rw [if_neg c_5] at hs
              refine lv_iload_n hx hb dX8_channel_51 rfl (lv_at hl 0 rfl) ?_
              exact hQ x2 (x2, o_this_L15, r_this_bytes_L15, r_this_card_L15, r_this_filled_L15, r_this_line_L15, r_this_taken_L15) _ _ _ _ dX8_channel_52 ⟨hF.symm, rfl⟩ hP hD hS
            · have c_5 := (bI_ne0 _).mp c_5
              rw [if_pos c_5] at hF
              rw [if_pos c_5] at hs
              refine lv_aload_n hx hb dX8_channel_27 rfl (lv_at hl 1 rfl) ?_
              refine gf_X8_217 (v := .int o_this_L15.2.2.2.2.2.2.2.2.2.2.2.2.2.2.2.2.1) hx hb hown ht hK hP 0 rfl rfl dX8_channel_28 ?_
              refine lv_if_ne (tgt := 41) hx hb dX8_channel_31 (by decide) (fun c_6 => ?_) (fun c_6 => ?_)
              · skip
                rw [if_neg c_6] at hF
                rw [if_neg c_6] at hs
                refine lv_aload_n hx hb dX8_channel_41 rfl (lv_at hl 1 rfl) ?_
                obtain ⟨hi_7, hs⟩ := hs
                refine q_Vv (rest := []) (c_X8_move l D a_this a_this_bytes a_this_keys a_this_line a_this_taken a_this_reg a_this_card a_this_filled a_this_one a_this_two k_this_bytes k_this_keys k_this_line k_this_taken o_this_L15 r_this_bytes_L15 r_this_keys r_this_line_L15 r_this_taken_L15 hi_7) cv_X8_move hx hb hml hown ht hN hK hA hP hD hS hl.1 (km_X8_268) ⟨Nat.le_of_ble_eq_true rfl, Nat.le_of_ble_eq_true rfl⟩ rfl rfl [0, 1, 4, 5, 6] (by decide) rfl [0, 3, 4, 5] rfl (fun _ => rfl) (ci := 8) rfl rfl rfl rfl rfl (Nat.le_of_ble_eq_true rfl) dX8_channel_42 ⟨Nat.zero_le _, Nat.zero_le _⟩ (fun w_8 H locs hw hP hD hS => ?_)
                have hP : va_P D vwCl [(a_this, oX8 a_this_bytes a_this_keys a_this_reg a_this_card a_this_filled a_this_taken a_this_line a_this_one a_this_two w_8.1), (a_this_bytes, .inl (k_this_bytes, 2048, .inl w_8.2.1)), (a_this_card, .inl (k_this_card, 160, .inl r_this_card_L15)), (a_this_filled, .inl (k_this_filled, 10, .inl r_this_filled_L15)), (a_this_keys, .inl (k_this_keys, 8, .inl r_this_keys)), (a_this_line, .inl (k_this_line, 32, .inl w_8.2.2)), (a_this_taken, .inl (k_this_taken, 16, .inl r_this_taken_L15))] H := hP
                have hD : va_D A [(a_this, oX8 a_this_bytes a_this_keys a_this_reg a_this_card a_this_filled a_this_taken a_this_line a_this_one a_this_two w_8.1), (a_this_bytes, .inl (k_this_bytes, 2048, .inl w_8.2.1)), (a_this_card, .inl (k_this_card, 160, .inl r_this_card_L15)), (a_this_filled, .inl (k_this_filled, 10, .inl r_this_filled_L15)), (a_this_keys, .inl (k_this_keys, 8, .inl r_this_keys)), (a_this_line, .inl (k_this_line, 32, .inl w_8.2.2)), (a_this_taken, .inl (k_this_taken, 16, .inl r_this_taken_L15))] := hD
                rw [q_let_of hw] at hF
                rw [q_let_of hw] at hs
                refine lv_iinc (v := (x2 + (1 : Int32))) (lv' := [(2, .int (x2 + (1 : Int32))), (0, .ref a_this), (1, .int p1)]) hx hb dX8_channel_45 hl (k := 0) rfl rfl (by decide) rfl (fun ls hl => ?_)
                refine lv_goto (tgt := 15) hx hb dX8_channel_48 (by decide) ?_
                exact ih w_8.1 w_8.2.1 r_this_card_L15 r_this_filled_L15 w_8.2.2 r_this_taken_L15 (x2 + (1 : Int32)) _ _ _ (by first | exact q_up hm c_1 | exact q_up hm c_2 | exact q_up hm c_4 | exact q_up hm c_5 | exact q_up hm c_6)  hP hD hS (lv_sub hl [0, 1, 2] rfl) hF hs
              · skip
                rw [if_pos c_6] at hF
                rw [if_pos c_6] at hs
                refine lv_aload_n hx hb dX8_channel_34 rfl (lv_at hl 1 rfl) ?_
                obtain ⟨hi_9, hs⟩ := hs
                refine q_Vv (rest := []) (c_X8_take l D a_this a_this_bytes a_this_card a_this_filled a_this_taken a_this_keys a_this_reg a_this_line a_this_one a_this_two k_this_bytes k_this_card k_this_filled k_this_taken o_this_L15 r_this_bytes_L15 r_this_card_L15 r_this_filled_L15 r_this_taken_L15 hi_9) cv_X8_take hx hb hml hown ht hN hK hA hP hD hS hl.1 (km_X8_265) ⟨Nat.le_of_ble_eq_true rfl, Nat.le_of_ble_eq_true rfl⟩ rfl rfl [0, 1, 2, 3, 6] (by decide) rfl [0, 1, 2, 5] rfl (fun _ => rfl) (ci := 8) rfl rfl rfl rfl rfl (Nat.le_of_ble_eq_true rfl) dX8_channel_35 ⟨Nat.zero_le _, Nat.zero_le _⟩ (fun w_10 H locs hw hP hD hS => ?_)
                have hP : va_P D vwCl [(a_this, oX8 a_this_bytes a_this_keys a_this_reg a_this_card a_this_filled a_this_taken a_this_line a_this_one a_this_two w_10.1), (a_this_bytes, .inl (k_this_bytes, 2048, .inl w_10.2.1)), (a_this_card, .inl (k_this_card, 160, .inl w_10.2.2.1)), (a_this_filled, .inl (k_this_filled, 10, .inl w_10.2.2.2.1)), (a_this_keys, .inl (k_this_keys, 8, .inl r_this_keys)), (a_this_line, .inl (k_this_line, 32, .inl r_this_line_L15)), (a_this_taken, .inl (k_this_taken, 16, .inl w_10.2.2.2.2))] H := hP
                have hD : va_D A [(a_this, oX8 a_this_bytes a_this_keys a_this_reg a_this_card a_this_filled a_this_taken a_this_line a_this_one a_this_two w_10.1), (a_this_bytes, .inl (k_this_bytes, 2048, .inl w_10.2.1)), (a_this_card, .inl (k_this_card, 160, .inl w_10.2.2.1)), (a_this_filled, .inl (k_this_filled, 10, .inl w_10.2.2.2.1)), (a_this_keys, .inl (k_this_keys, 8, .inl r_this_keys)), (a_this_line, .inl (k_this_line, 32, .inl r_this_line_L15)), (a_this_taken, .inl (k_this_taken, 16, .inl w_10.2.2.2.2))] := hD
                rw [q_let_of hw] at hF
                rw [q_let_of hw] at hs
                refine lv_goto (tgt := 45) hx hb dX8_channel_38 (by decide) ?_
                refine lv_iinc (v := (x2 + (1 : Int32))) (lv' := [(2, .int (x2 + (1 : Int32))), (0, .ref a_this), (1, .int p1)]) hx hb dX8_channel_45 hl (k := 0) rfl rfl (by decide) rfl (fun ls hl => ?_)
                refine lv_goto (tgt := 15) hx hb dX8_channel_48 (by decide) ?_
                exact ih w_10.1 w_10.2.1 w_10.2.2.1 w_10.2.2.2.1 r_this_line_L15 w_10.2.2.2.2 (x2 + (1 : Int32)) _ _ _ (by first | exact q_up hm c_1 | exact q_up hm c_2 | exact q_up hm c_4 | exact q_up hm c_5 | exact q_up hm c_6)  hP hD hS (lv_sub hl [0, 1, 2] rfl) hF hs
      exact L15 (((p1 : Int32).toInt - (0 : Int32).toInt).toNat + 1) o_this r_this_bytes r_this_card r_this_filled r_this_line r_this_taken 0 _ _ _ (Nat.lt_succ_self _)  hP hD hS (lv_sub hl [0, 1, 2] rfl) hF hs
    · skip
      rw [if_neg c_2] at hF
      rw [if_neg c_2] at hs
      refine lv_iconst (v := (-1)) hx hb dX8_channel_11 (by decide) ?_
      exact hQ (-1) ((-1), o_this, r_this_bytes, r_this_card, r_this_filled, r_this_line, r_this_taken) _ _ _ _ dX8_channel_12 ⟨hF.symm, rfl⟩ hP hD hS
theorem cv_X8_channel : qV yX8_channel cX8_channel 3 (some .int) 1 := ⟨kc_X8_channel, kt_X8_channel, ks_X8_channel, kn_X8, by decide, by decide +kernel⟩
def f_X8_look (o_this : Int32 × Int32 × Int32 × Int32 × Bool × Bool × Int32 × Int32 × Int32 × Int32 × Bool × Bool × Bool × Int32 × Int32 × Int32 × Int32 × Int32 × Int32 × Int32 × Int32 × Int32 × Int32 × Int32 × Int32) (p1 : Int32) : Int32 := (if (4 : Int32) ≤ p1 then (if p1 = (4 : Int32) then o_this.2.2.2.2.2.2.2.2.2.2.2.2.2.2.2.2.2.2.2.2.2.2.2.1 else (if p1 = (5 : Int32) then o_this.2.2.2.2.2.2.2.2.2.2.2.2.2.2.2.2.2.2.2.2.2.2.2.2 else (if p1 = (6 : Int32) then o_this.2.2.2.2.2.2.1 else (if p1 = (7 : Int32) then o_this.2.2.2.2.2.2.2.1 else (-1))))) else (if p1 = 0 then (if o_this.2.2.2.2.2.2.2.2.2.2.1 = true then 1 else 0) else (if p1 = (1 : Int32) then (if o_this.2.2.2.2.2.1 = true then 1 else 0) else (if p1 = (2 : Int32) then (if o_this.2.2.2.2.1 = true then 1 else 0) else (if p1 = (3 : Int32) then o_this.2.2.2.2.2.2.2.2.2.2.2.2.2.2.2.2.2.2.2.2.1 else (-1))))))
set_option linter.all false in
set_option maxHeartbeats 4000000 in
set_option maxRecDepth 100000 in
theorem c_X8_look (l : Launch) (D : va_G) (a_this a_this_bytes a_this_keys a_this_reg a_this_card a_this_filled a_this_taken a_this_line a_this_one a_this_two : Nat) (o_this : Int32 × Int32 × Int32 × Int32 × Bool × Bool × Int32 × Int32 × Int32 × Int32 × Bool × Bool × Bool × Int32 × Int32 × Int32 × Int32 × Int32 × Int32 × Int32 × Int32 × Int32 × Int32 × Int32 × Int32) (p1 : Int32) : CtI l yX8_look cX8_look 2 (some .int) { frames := 0, cells := 0, slots := 0, locals := 0 } D [.ref a_this, .int p1] [(a_this, oX8 a_this_bytes a_this_keys a_this_reg a_this_card a_this_filled a_this_taken a_this_line a_this_one a_this_two o_this)] [] (fun (r : Int32) (u : Int32) => f_X8_look o_this p1 = u ∧ r = u) (fun u => [(a_this, oX8 a_this_bytes a_this_keys a_this_reg a_this_card a_this_filled a_this_taken a_this_line a_this_one a_this_two o_this)]) := by
  refine CtI.of (by decide) (Nat.le_of_ble_eq_true rfl) ?_
  intro p e s m below meth c A ls Q hE hP hD hS hl hQ
  obtain ⟨hx, hb, hml, hown, ht, hN, hK, hA⟩ := hE
  have hown : s.vm.findClass RX8 = some m.cls := hown
  have hl : lv_has ls 2 [(0, .ref a_this), (1, .int p1)] := hl
  obtain ⟨F, hF⟩ : ∃ F, f_X8_look o_this p1 = F := ⟨_, rfl⟩
  rw [hF] at hQ
  unfold f_X8_look at hF
  refine lv_iload_n hx hb dX8_look_0 rfl (lv_at hl 1 rfl) ?_
  refine lv_iconst (v := 4) hx hb dX8_look_1 (by decide) ?_
  refine lv_icmp_ge (tgt := 78) hx hb dX8_look_2 (by decide) (fun c_1 => ?_) (fun c_1 => ?_)
  · skip
    rw [if_pos c_1] at hF
    refine lv_iload_n hx hb dX8_look_78 rfl (lv_at hl 1 rfl) ?_
    refine lv_iconst (v := 4) hx hb dX8_look_79 (by decide) ?_
    refine lv_icmp_ne (tgt := 90) hx hb dX8_look_80 (by decide) (fun c_2 => ?_) (fun c_2 => ?_)
    · skip
      rw [if_neg c_2] at hF
      refine lv_iload_n hx hb dX8_look_90 rfl (lv_at hl 1 rfl) ?_
      refine lv_iconst (v := 5) hx hb dX8_look_91 (by decide) ?_
      refine lv_icmp_ne (tgt := 102) hx hb dX8_look_92 (by decide) (fun c_3 => ?_) (fun c_3 => ?_)
      · skip
        rw [if_neg c_3] at hF
        refine lv_iload_n hx hb dX8_look_102 rfl (lv_at hl 1 rfl) ?_
        refine lv_bipush (v := 6) hx hb dX8_look_103 (by decide) ?_
        refine lv_icmp_ne (tgt := 115) hx hb dX8_look_105 (by decide) (fun c_4 => ?_) (fun c_4 => ?_)
        · skip
          rw [if_neg c_4] at hF
          refine lv_iload_n hx hb dX8_look_115 rfl (lv_at hl 1 rfl) ?_
          refine lv_bipush (v := 7) hx hb dX8_look_116 (by decide) ?_
          refine lv_icmp_ne (tgt := 128) hx hb dX8_look_118 (by decide) (fun c_5 => ?_) (fun c_5 => ?_)
          · skip
            rw [if_neg c_5] at hF
            refine lv_iconst (v := (-1)) hx hb dX8_look_128 (by decide) ?_
            exact hQ (-1) (-1) _ _ _ _ dX8_look_129 ⟨hF.symm, rfl⟩ hP hD hS
          · skip
            rw [if_pos c_5] at hF
            refine lv_aload_n hx hb dX8_look_121 rfl (lv_at hl 0 rfl) ?_
            refine gf_X8_92 (v := .int o_this.2.2.2.2.2.2.2.1) hx hb hown ht hK hP 0 rfl rfl dX8_look_122 ?_
            refine lv_goto (tgt := 129) hx hb dX8_look_125 (by decide) ?_
            exact hQ o_this.2.2.2.2.2.2.2.1 o_this.2.2.2.2.2.2.2.1 _ _ _ _ dX8_look_129 ⟨hF.symm, rfl⟩ hP hD hS
        · skip
          rw [if_pos c_4] at hF
          refine lv_aload_n hx hb dX8_look_108 rfl (lv_at hl 0 rfl) ?_
          refine gf_X8_70 (v := .int o_this.2.2.2.2.2.2.1) hx hb hown ht hK hP 0 rfl rfl dX8_look_109 ?_
          refine lv_goto (tgt := 129) hx hb dX8_look_112 (by decide) ?_
          exact hQ o_this.2.2.2.2.2.2.1 o_this.2.2.2.2.2.2.1 _ _ _ _ dX8_look_129 ⟨hF.symm, rfl⟩ hP hD hS
      · skip
        rw [if_pos c_3] at hF
        refine lv_aload_n hx hb dX8_look_95 rfl (lv_at hl 0 rfl) ?_
        refine gf_X8_245 (v := .int o_this.2.2.2.2.2.2.2.2.2.2.2.2.2.2.2.2.2.2.2.2.2.2.2.2) hx hb hown ht hK hP 0 rfl rfl dX8_look_96 ?_
        refine lv_goto (tgt := 129) hx hb dX8_look_99 (by decide) ?_
        exact hQ o_this.2.2.2.2.2.2.2.2.2.2.2.2.2.2.2.2.2.2.2.2.2.2.2.2 o_this.2.2.2.2.2.2.2.2.2.2.2.2.2.2.2.2.2.2.2.2.2.2.2.2 _ _ _ _ dX8_look_129 ⟨hF.symm, rfl⟩ hP hD hS
    · skip
      rw [if_pos c_2] at hF
      refine lv_aload_n hx hb dX8_look_83 rfl (lv_at hl 0 rfl) ?_
      refine gf_X8_242 (v := .int o_this.2.2.2.2.2.2.2.2.2.2.2.2.2.2.2.2.2.2.2.2.2.2.2.1) hx hb hown ht hK hP 0 rfl rfl dX8_look_84 ?_
      refine lv_goto (tgt := 129) hx hb dX8_look_87 (by decide) ?_
      exact hQ o_this.2.2.2.2.2.2.2.2.2.2.2.2.2.2.2.2.2.2.2.2.2.2.2.1 o_this.2.2.2.2.2.2.2.2.2.2.2.2.2.2.2.2.2.2.2.2.2.2.2.1 _ _ _ _ dX8_look_129 ⟨hF.symm, rfl⟩ hP hD hS
  · skip
    rw [if_neg c_1] at hF
    refine lv_iload_n hx hb dX8_look_5 rfl (lv_at hl 1 rfl) ?_
    refine lv_if_ne (tgt := 24) hx hb dX8_look_6 (by decide) (fun c_6 => ?_) (fun c_6 => ?_)
    · skip
      rw [if_neg c_6] at hF
      refine lv_iload_n hx hb dX8_look_24 rfl (lv_at hl 1 rfl) ?_
      refine lv_iconst (v := 1) hx hb dX8_look_25 (by decide) ?_
      refine lv_icmp_ne (tgt := 44) hx hb dX8_look_26 (by decide) (fun c_7 => ?_) (fun c_7 => ?_)
      · skip
        rw [if_neg c_7] at hF
        refine lv_iload_n hx hb dX8_look_44 rfl (lv_at hl 1 rfl) ?_
        refine lv_iconst (v := 2) hx hb dX8_look_45 (by decide) ?_
        refine lv_icmp_ne (tgt := 64) hx hb dX8_look_46 (by decide) (fun c_8 => ?_) (fun c_8 => ?_)
        · skip
          rw [if_neg c_8] at hF
          refine lv_iload_n hx hb dX8_look_64 rfl (lv_at hl 1 rfl) ?_
          refine lv_iconst (v := 3) hx hb dX8_look_65 (by decide) ?_
          refine lv_icmp_ne (tgt := 76) hx hb dX8_look_66 (by decide) (fun c_9 => ?_) (fun c_9 => ?_)
          · skip
            rw [if_neg c_9] at hF
            refine lv_iconst (v := (-1)) hx hb dX8_look_76 (by decide) ?_
            exact hQ (-1) (-1) _ _ _ _ dX8_look_77 ⟨hF.symm, rfl⟩ hP hD hS
          · skip
            rw [if_pos c_9] at hF
            refine lv_aload_n hx hb dX8_look_69 rfl (lv_at hl 0 rfl) ?_
            refine gf_X8_248 (v := .int o_this.2.2.2.2.2.2.2.2.2.2.2.2.2.2.2.2.2.2.2.2.1) hx hb hown ht hK hP 0 rfl rfl dX8_look_70 ?_
            refine lv_goto (tgt := 77) hx hb dX8_look_73 (by decide) ?_
            exact hQ o_this.2.2.2.2.2.2.2.2.2.2.2.2.2.2.2.2.2.2.2.2.1 o_this.2.2.2.2.2.2.2.2.2.2.2.2.2.2.2.2.2.2.2.2.1 _ _ _ _ dX8_look_77 ⟨hF.symm, rfl⟩ hP hD hS
        · skip
          rw [if_pos c_8] at hF
          refine lv_aload_n hx hb dX8_look_49 rfl (lv_at hl 0 rfl) ?_
          refine gf_X8_73 (v := .int (bI o_this.2.2.2.2.1)) hx hb hown ht hK hP 0 rfl rfl dX8_look_50 ?_
          refine lv_if_eq (tgt := 60) hx hb dX8_look_53 (by decide) (fun c_10 => ?_) (fun c_10 => ?_)
          · have c_10 : ¬ o_this.2.2.2.2.1 = true := by rw [(bI_eq0 _).mp c_10]; decide
            rw [if_neg c_10] at hF
            refine lv_iconst (v := 0) hx hb dX8_look_60 (by decide) ?_
            refine lv_goto (tgt := 77) hx hb dX8_look_61 (by decide) ?_
            exact hQ 0 0 _ _ _ _ dX8_look_77 ⟨hF.symm, rfl⟩ hP hD hS
          · have c_10 := (bI_ne0 _).mp c_10
            rw [if_pos c_10] at hF
            refine lv_iconst (v := 1) hx hb dX8_look_56 (by decide) ?_
            refine lv_goto (tgt := 77) hx hb dX8_look_57 (by decide) ?_
            exact hQ 1 1 _ _ _ _ dX8_look_77 ⟨hF.symm, rfl⟩ hP hD hS
      · skip
        rw [if_pos c_7] at hF
        refine lv_aload_n hx hb dX8_look_29 rfl (lv_at hl 0 rfl) ?_
        refine gf_X8_80 (v := .int (bI o_this.2.2.2.2.2.1)) hx hb hown ht hK hP 0 rfl rfl dX8_look_30 ?_
        refine lv_if_eq (tgt := 40) hx hb dX8_look_33 (by decide) (fun c_11 => ?_) (fun c_11 => ?_)
        · have c_11 : ¬ o_this.2.2.2.2.2.1 = true := by rw [(bI_eq0 _).mp c_11]; decide
          rw [if_neg c_11] at hF
          refine lv_iconst (v := 0) hx hb dX8_look_40 (by decide) ?_
          refine lv_goto (tgt := 77) hx hb dX8_look_41 (by decide) ?_
          exact hQ 0 0 _ _ _ _ dX8_look_77 ⟨hF.symm, rfl⟩ hP hD hS
        · have c_11 := (bI_ne0 _).mp c_11
          rw [if_pos c_11] at hF
          refine lv_iconst (v := 1) hx hb dX8_look_36 (by decide) ?_
          refine lv_goto (tgt := 77) hx hb dX8_look_37 (by decide) ?_
          exact hQ 1 1 _ _ _ _ dX8_look_77 ⟨hF.symm, rfl⟩ hP hD hS
    · skip
      rw [if_pos c_6] at hF
      refine lv_aload_n hx hb dX8_look_9 rfl (lv_at hl 0 rfl) ?_
      refine gf_X8_193 (v := .int (bI o_this.2.2.2.2.2.2.2.2.2.2.1)) hx hb hown ht hK hP 0 rfl rfl dX8_look_10 ?_
      refine lv_if_eq (tgt := 20) hx hb dX8_look_13 (by decide) (fun c_12 => ?_) (fun c_12 => ?_)
      · have c_12 : ¬ o_this.2.2.2.2.2.2.2.2.2.2.1 = true := by rw [(bI_eq0 _).mp c_12]; decide
        rw [if_neg c_12] at hF
        refine lv_iconst (v := 0) hx hb dX8_look_20 (by decide) ?_
        refine lv_goto (tgt := 77) hx hb dX8_look_21 (by decide) ?_
        exact hQ 0 0 _ _ _ _ dX8_look_77 ⟨hF.symm, rfl⟩ hP hD hS
      · have c_12 := (bI_ne0 _).mp c_12
        rw [if_pos c_12] at hF
        refine lv_iconst (v := 1) hx hb dX8_look_16 (by decide) ?_
        refine lv_goto (tgt := 77) hx hb dX8_look_17 (by decide) ?_
        exact hQ 1 1 _ _ _ _ dX8_look_77 ⟨hF.symm, rfl⟩ hP hD hS
theorem cv_X8_look : qV yX8_look cX8_look 2 (some .int) 1 := ⟨kc_X8_look, kt_X8_look, ks_X8_look, kn_X8, by decide, by decide +kernel⟩
def f_X8_printed (o_this : Int32 × Int32 × Int32 × Int32 × Bool × Bool × Int32 × Int32 × Int32 × Int32 × Bool × Bool × Bool × Int32 × Int32 × Int32 × Int32 × Int32 × Int32 × Int32 × Int32 × Int32 × Int32 × Int32 × Int32) (r_this_line : Nat → Int32) (p1 : Int32) : Int32 := (if p1 < 0 then (-1) else (if (31 : Int32) < p1 then (-1) else (if p1 < o_this.2.2.2.2.2.2.2.2.2.2.2.2.2.2.2.2.2.2.2.2.2.2.2.2 then (r_this_line p1.toNatClampNeg) else (-1))))
def s_X8_printed (o_this : Int32 × Int32 × Int32 × Int32 × Bool × Bool × Int32 × Int32 × Int32 × Int32 × Bool × Bool × Bool × Int32 × Int32 × Int32 × Int32 × Int32 × Int32 × Int32 × Int32 × Int32 × Int32 × Int32 × Int32) (p1 : Int32) : Prop := (if p1 < 0 then True else (if (31 : Int32) < p1 then True else (if p1 < o_this.2.2.2.2.2.2.2.2.2.2.2.2.2.2.2.2.2.2.2.2.2.2.2.2 then vp_in p1 32 else True)))
set_option linter.all false in
set_option maxHeartbeats 4000000 in
set_option maxRecDepth 100000 in
theorem c_X8_printed (l : Launch) (D : va_G) (a_this a_this_line a_this_bytes a_this_keys a_this_reg a_this_card a_this_filled a_this_taken a_this_one a_this_two : Nat) (k_this_line : ClassId) (o_this : Int32 × Int32 × Int32 × Int32 × Bool × Bool × Int32 × Int32 × Int32 × Int32 × Bool × Bool × Bool × Int32 × Int32 × Int32 × Int32 × Int32 × Int32 × Int32 × Int32 × Int32 × Int32 × Int32 × Int32) (r_this_line : Nat → Int32) (p1 : Int32) (hs : s_X8_printed o_this p1) : CtI l yX8_printed cX8_printed 2 (some .int) { frames := 0, cells := 0, slots := 0, locals := 0 } D [.ref a_this, .int p1] [(a_this, oX8 a_this_bytes a_this_keys a_this_reg a_this_card a_this_filled a_this_taken a_this_line a_this_one a_this_two o_this), (a_this_line, .inl (k_this_line, 32, .inl r_this_line))] [(k_this_line, .int)] (fun (r : Int32) (u : Int32) => f_X8_printed o_this r_this_line p1 = u ∧ r = u) (fun u => [(a_this, oX8 a_this_bytes a_this_keys a_this_reg a_this_card a_this_filled a_this_taken a_this_line a_this_one a_this_two o_this), (a_this_line, .inl (k_this_line, 32, .inl r_this_line))]) := by
  refine CtI.of (by decide) (Nat.le_of_ble_eq_true rfl) ?_
  intro p e s m below meth c A ls Q hE hP hD hS hl hQ
  obtain ⟨hx, hb, hml, hown, ht, hN, hK, hA⟩ := hE
  have hown : s.vm.findClass RX8 = some m.cls := hown
  have hl : lv_has ls 2 [(0, .ref a_this), (1, .int p1)] := hl
  obtain ⟨F, hF⟩ : ∃ F, f_X8_printed o_this r_this_line p1 = F := ⟨_, rfl⟩
  rw [hF] at hQ
  unfold f_X8_printed at hF
  unfold s_X8_printed at hs
  refine lv_iload_n hx hb dX8_printed_0 rfl (lv_at hl 1 rfl) ?_
  refine lv_if_lt (tgt := 18) hx hb dX8_printed_1 (by decide) (fun c_1 => ?_) (fun c_1 => ?_)
  · skip
    rw [if_pos c_1] at hF
    rw [if_pos c_1] at hs
    refine lv_iconst (v := (-1)) hx hb dX8_printed_18 (by decide) ?_
    refine lv_goto (tgt := 28) hx hb dX8_printed_19 (by decide) ?_
    exact hQ (-1) (-1) _ _ _ _ dX8_printed_28 ⟨hF.symm, rfl⟩ hP hD hS
  · skip
    rw [if_neg c_1] at hF
    rw [if_neg c_1] at hs
    refine lv_iload_n hx hb dX8_printed_4 rfl (lv_at hl 1 rfl) ?_
    refine lv_bipush (v := 31) hx hb dX8_printed_5 (by decide) ?_
    refine lv_icmp_gt (tgt := 18) hx hb dX8_printed_7 (by decide) (fun c_2 => ?_) (fun c_2 => ?_)
    · skip
      rw [if_pos c_2] at hF
      rw [if_pos c_2] at hs
      refine lv_iconst (v := (-1)) hx hb dX8_printed_18 (by decide) ?_
      refine lv_goto (tgt := 28) hx hb dX8_printed_19 (by decide) ?_
      exact hQ (-1) (-1) _ _ _ _ dX8_printed_28 ⟨hF.symm, rfl⟩ hP hD hS
    · skip
      rw [if_neg c_2] at hF
      rw [if_neg c_2] at hs
      refine lv_iload_n hx hb dX8_printed_10 rfl (lv_at hl 1 rfl) ?_
      refine lv_aload_n hx hb dX8_printed_11 rfl (lv_at hl 0 rfl) ?_
      refine gf_X8_245 (v := .int o_this.2.2.2.2.2.2.2.2.2.2.2.2.2.2.2.2.2.2.2.2.2.2.2.2) hx hb hown ht hK hP 0 rfl rfl dX8_printed_12 ?_
      refine lv_icmp_lt (tgt := 22) hx hb dX8_printed_15 (by decide) (fun c_3 => ?_) (fun c_3 => ?_)
      · skip
        rw [if_pos c_3] at hF
        rw [if_pos c_3] at hs
        refine lv_aload_n hx hb dX8_printed_22 rfl (lv_at hl 0 rfl) ?_
        refine gf_X8_28 (v := .ref a_this_line) hx hb hown ht hK hP 0 rfl rfl dX8_printed_23 ?_
        refine lv_iload_n hx hb dX8_printed_26 rfl (lv_at hl 1 rfl) ?_
        have hi_4 := hs
        refine va_iald hx hb hK hP 1 0 rfl rfl hi_4 dX8_printed_27 ?_
        exact hQ (r_this_line p1.toNatClampNeg) (r_this_line p1.toNatClampNeg) _ _ _ _ dX8_printed_28 ⟨hF.symm, rfl⟩ hP hD hS
      · skip
        rw [if_neg c_3] at hF
        rw [if_neg c_3] at hs
        refine lv_iconst (v := (-1)) hx hb dX8_printed_18 (by decide) ?_
        refine lv_goto (tgt := 28) hx hb dX8_printed_19 (by decide) ?_
        exact hQ (-1) (-1) _ _ _ _ dX8_printed_28 ⟨hF.symm, rfl⟩ hP hD hS
theorem cv_X8_printed : qV yX8_printed cX8_printed 2 (some .int) 1 := ⟨kc_X8_printed, kt_X8_printed, ks_X8_printed, kn_X8, by decide, by decide +kernel⟩
