
def f_X5_part (o_this : Int32 × Int32 × Int32 × Int32) (p1 : Int32) : Int32 := (if p1 = (16 : Int32) then o_this.2.2.2 else (if p1 = (17 : Int32) then o_this.2.1 else (if p1 = (18 : Int32) then o_this.1 else (if p1 = (19 : Int32) then o_this.2.2.1 else (-1)))))
set_option linter.all false in
set_option maxHeartbeats 4000000 in
set_option maxRecDepth 100000 in
theorem c_X5_part (l : Launch) (D : va_G) (a_this : Nat) (o_this : Int32 × Int32 × Int32 × Int32) (p1 : Int32) : CtI l yX5_part cX5_part 2 (some .int) { frames := 0, cells := 0, slots := 0, locals := 0 } D [.ref a_this, .int p1] [(a_this, oX5 o_this)] [] (fun (r : Int32) (u : Int32) => f_X5_part o_this p1 = u ∧ r = u) (fun u => [(a_this, oX5 o_this)]) := by
  refine CtI.of (by decide) (Nat.le_of_ble_eq_true rfl) ?_
  intro p e s m below meth c A ls Q hE hP hD hS hl hQ
  obtain ⟨hx, hb, hml, hown, ht, hN, hK, hA⟩ := hE
  have hown : s.vm.findClass RX5 = some m.cls := hown
  have hl : lv_has ls 2 [(0, .ref a_this), (1, .int p1)] := hl
  obtain ⟨F, hF⟩ : ∃ F, f_X5_part o_this p1 = F := ⟨_, rfl⟩
  rw [hF] at hQ
  unfold f_X5_part at hF
  refine lv_iload_n hx hb dX5_part_0 rfl (lv_at hl 1 rfl) ?_
  rcases Classical.em (p1 = (16 : Int32)) with c_1 | c_1
  · rw [if_pos c_1] at hF
    refine lv_tableIn (off := 31) (tgt := 32) hx hb dX5_part_1 (by rw [c_1]; decide) (by rw [c_1]; decide) (by rw [c_1]; decide) (by decide) ?_
    refine lv_aload_n hx hb dX5_part_32 rfl (lv_at hl 0 rfl) ?_
    refine gf_X5_9 (v := .int o_this.2.2.2) hx hb hown ht hK hP 0 rfl rfl dX5_part_33 ?_
    exact hQ o_this.2.2.2 o_this.2.2.2 _ _ _ _ dX5_part_36 ⟨hF.symm, rfl⟩ hP hD hS
  · rw [if_neg c_1] at hF
    rcases Classical.em (p1 = (17 : Int32)) with c_2 | c_2
    · rw [if_pos c_2] at hF
      refine lv_tableIn (off := 36) (tgt := 37) hx hb dX5_part_1 (by rw [c_2]; decide) (by rw [c_2]; decide) (by rw [c_2]; decide) (by decide) ?_
      refine lv_aload_n hx hb dX5_part_37 rfl (lv_at hl 0 rfl) ?_
      refine gf_X5_15 (v := .int o_this.2.1) hx hb hown ht hK hP 0 rfl rfl dX5_part_38 ?_
      exact hQ o_this.2.1 o_this.2.1 _ _ _ _ dX5_part_41 ⟨hF.symm, rfl⟩ hP hD hS
    · rw [if_neg c_2] at hF
      rcases Classical.em (p1 = (18 : Int32)) with c_3 | c_3
      · rw [if_pos c_3] at hF
        refine lv_tableIn (off := 41) (tgt := 42) hx hb dX5_part_1 (by rw [c_3]; decide) (by rw [c_3]; decide) (by rw [c_3]; decide) (by decide) ?_
        refine lv_aload_n hx hb dX5_part_42 rfl (lv_at hl 0 rfl) ?_
        refine gf_X5_18 (v := .int o_this.1) hx hb hown ht hK hP 0 rfl rfl dX5_part_43 ?_
        exact hQ o_this.1 o_this.1 _ _ _ _ dX5_part_46 ⟨hF.symm, rfl⟩ hP hD hS
      · rw [if_neg c_3] at hF
        rcases Classical.em (p1 = (19 : Int32)) with c_4 | c_4
        · rw [if_pos c_4] at hF
          refine lv_tableIn (off := 46) (tgt := 47) hx hb dX5_part_1 (by rw [c_4]; decide) (by rw [c_4]; decide) (by rw [c_4]; decide) (by decide) ?_
          refine lv_aload_n hx hb dX5_part_47 rfl (lv_at hl 0 rfl) ?_
          refine gf_X5_21 (v := .int o_this.2.2.1) hx hb hown ht hK hP 0 rfl rfl dX5_part_48 ?_
          exact hQ o_this.2.2.1 o_this.2.2.1 _ _ _ _ dX5_part_51 ⟨hF.symm, rfl⟩ hP hD hS
        · rw [if_neg c_4] at hF
          have hsw : (p1).toInt < 16 ∨ 19 < (p1).toInt := by
            have e0 := lv_neT c_1 (a := 16) (by decide)
            have e1 := lv_neT c_2 (a := 17) (by decide)
            have e2 := lv_neT c_3 (a := 18) (by decide)
            have e3 := lv_neT c_4 (a := 19) (by decide)
            omega
          refine lv_tableOut (tgt := 52) hx hb dX5_part_1 hsw (by decide) ?_
          refine lv_iconst (v := (-1)) hx hb dX5_part_52 (by decide) ?_
          exact hQ (-1) (-1) _ _ _ _ dX5_part_53 ⟨hF.symm, rfl⟩ hP hD hS
theorem cv_X5_part : qV yX5_part cX5_part 2 (some .int) 1 := ⟨kc_X5_part, kt_X5_part, ks_X5_part, kn_X5, by decide, by decide +kernel⟩
def f_X5_goTo (o_this : Int32 × Int32 × Int32 × Int32) (p1 : Int32) : Int32 × Int32 × Int32 × Int32 := (o_this.1, o_this.2.1, o_this.2.2.1, (p1 &&& (65535 : Int32)))
set_option linter.all false in
set_option maxHeartbeats 4000000 in
set_option maxRecDepth 100000 in
theorem c_X5_goTo (l : Launch) (D : va_G) (a_this : Nat) (o_this : Int32 × Int32 × Int32 × Int32) (p1 : Int32) : CtV l yX5_goTo cX5_goTo 2 none { frames := 0, cells := 0, slots := 0, locals := 0 } D [.ref a_this, .int p1] [(a_this, oX5 o_this)] [] (fun (u : Int32 × Int32 × Int32 × Int32) => f_X5_goTo o_this p1 = u) (fun u => [(a_this, oX5 u)]) := by
  refine CtV.of (by decide) (Nat.le_of_ble_eq_true rfl) ?_
  intro p e s m below meth c A ls Q hE hP hD hS hl hQ
  obtain ⟨hx, hb, hml, hown, ht, hN, hK, hA⟩ := hE
  have hown : s.vm.findClass RX5 = some m.cls := hown
  have hl : lv_has ls 2 [(0, .ref a_this), (1, .int p1)] := hl
  obtain ⟨F, hF⟩ : ∃ F, f_X5_goTo o_this p1 = F := ⟨_, rfl⟩
  rw [hF] at hQ
  unfold f_X5_goTo at hF
  refine lv_aload_n hx hb dX5_goTo_0 rfl (lv_at hl 0 rfl) ?_
  refine lv_iload_n hx hb dX5_goTo_1 rfl (lv_at hl 1 rfl) ?_
  refine lv_ldc (v := 65535) hx hb hown (ht _ ki_X5_28) dX5_goTo_2 ?_
  refine lv_iand hx hb dX5_goTo_4 ?_
  refine pf_X5_9 (x := (p1 &&& (65535 : Int32))) hx hb hown ht hK hP hD hS 0 rfl (Nat.le_of_ble_eq_true rfl) dX5_goTo_5 (fun H locs hP hD hS => ?_)
  have hP : va_P D vwCl [(a_this, oX5 (o_this.1, o_this.2.1, o_this.2.2.1, (p1 &&& (65535 : Int32))))] H := hP
  have hD : va_D A [(a_this, oX5 (o_this.1, o_this.2.1, o_this.2.2.1, (p1 &&& (65535 : Int32))))] := hD
  exact hQ (o_this.1, o_this.2.1, o_this.2.2.1, (p1 &&& (65535 : Int32))) _ _ _ _ dX5_goTo_8 hF.symm hP hD hS
theorem cv_X5_goTo : qV yX5_goTo cX5_goTo 2 none 1 := ⟨kc_X5_goTo, kt_X5_goTo, ks_X5_goTo, kn_X5, by decide, by decide +kernel⟩
def f_X5_putPart (o_this : Int32 × Int32 × Int32 × Int32) (p1 : Int32) (p2 : Int32) : Int32 × Int32 × Int32 × Int32 := (if p1 = (16 : Int32) then (q_let (f_X5_goTo o_this p2) fun w_2 => w_2) else (if p1 = (17 : Int32) then (o_this.1, (p2 &&& (15 : Int32)), o_this.2.2.1, o_this.2.2.2) else (if p1 = (18 : Int32) then ((p2 &&& (31 : Int32)), o_this.2.1, o_this.2.2.1, o_this.2.2.2) else (if p1 = (19 : Int32) then (o_this.1, o_this.2.1, (p2 &&& (3 : Int32)), o_this.2.2.2) else o_this))))
set_option linter.all false in
set_option maxHeartbeats 4000000 in
set_option maxRecDepth 100000 in
theorem c_X5_putPart (l : Launch) (D : va_G) (a_this : Nat) (o_this : Int32 × Int32 × Int32 × Int32) (p1 : Int32) (p2 : Int32) : CtV l yX5_putPart cX5_putPart 3 none { frames := 1, cells := 0, slots := 0, locals := 21 } D [.ref a_this, .int p1, .int p2] [(a_this, oX5 o_this)] [] (fun (u : Int32 × Int32 × Int32 × Int32) => f_X5_putPart o_this p1 p2 = u) (fun u => [(a_this, oX5 u)]) := by
  refine CtV.of (by decide) (Nat.le_of_ble_eq_true rfl) ?_
  intro p e s m below meth c A ls Q hE hP hD hS hl hQ
  obtain ⟨hx, hb, hml, hown, ht, hN, hK, hA⟩ := hE
  have hown : s.vm.findClass RX5 = some m.cls := hown
  have hl : lv_has ls 3 [(0, .ref a_this), (1, .int p1), (2, .int p2)] := hl
  obtain ⟨F, hF⟩ : ∃ F, f_X5_putPart o_this p1 p2 = F := ⟨_, rfl⟩
  rw [hF] at hQ
  unfold f_X5_putPart at hF
  refine lv_iload_n hx hb dX5_putPart_0 rfl (lv_at hl 1 rfl) ?_
  rcases Classical.em (p1 = (16 : Int32)) with c_1 | c_1
  · rw [if_pos c_1] at hF
    refine lv_tableIn (off := 31) (tgt := 32) hx hb dX5_putPart_1 (by rw [c_1]; decide) (by rw [c_1]; decide) (by rw [c_1]; decide) (by decide) ?_
    refine lv_aload_n hx hb dX5_putPart_32 rfl (lv_at hl 0 rfl) ?_
    refine lv_iload_n hx hb dX5_putPart_33 rfl (lv_at hl 2 rfl) ?_
    refine q_Vv (rest := []) (c_X5_goTo l D a_this o_this p2) cv_X5_goTo hx hb hml hown ht hN hK hA hP hD hS hl.1 (km_X5_24) ⟨Nat.le_of_ble_eq_true rfl, Nat.le_of_ble_eq_true rfl⟩ rfl rfl [0] (by decide) rfl [] rfl (fun _ => rfl) (ci := 5) rfl rfl rfl rfl rfl (Nat.le_of_ble_eq_true rfl) dX5_putPart_34 ⟨Nat.zero_le _, Nat.zero_le _⟩ (fun w_2 H locs hw hP hD hS => ?_)
    have hP : va_P D vwCl [(a_this, oX5 w_2)] H := hP
    have hD : va_D A [(a_this, oX5 w_2)] := hD
    rw [q_let_of hw] at hF
    refine lv_goto (tgt := 72) hx hb dX5_putPart_37 (by decide) ?_
    exact hQ w_2 _ _ _ _ dX5_putPart_72 hF.symm hP hD hS
  · rw [if_neg c_1] at hF
    rcases Classical.em (p1 = (17 : Int32)) with c_3 | c_3
    · rw [if_pos c_3] at hF
      refine lv_tableIn (off := 39) (tgt := 40) hx hb dX5_putPart_1 (by rw [c_3]; decide) (by rw [c_3]; decide) (by rw [c_3]; decide) (by decide) ?_
      refine lv_aload_n hx hb dX5_putPart_40 rfl (lv_at hl 0 rfl) ?_
      refine lv_iload_n hx hb dX5_putPart_41 rfl (lv_at hl 2 rfl) ?_
      refine lv_bipush (v := 15) hx hb dX5_putPart_42 (by decide) ?_
      refine lv_iand hx hb dX5_putPart_44 ?_
      refine pf_X5_15 (x := (p2 &&& (15 : Int32))) hx hb hown ht hK hP hD hS 0 rfl (Nat.le_of_ble_eq_true rfl) dX5_putPart_45 (fun H locs hP hD hS => ?_)
      have hP : va_P D vwCl [(a_this, oX5 (o_this.1, (p2 &&& (15 : Int32)), o_this.2.2.1, o_this.2.2.2))] H := hP
      have hD : va_D A [(a_this, oX5 (o_this.1, (p2 &&& (15 : Int32)), o_this.2.2.1, o_this.2.2.2))] := hD
      refine lv_goto (tgt := 72) hx hb dX5_putPart_48 (by decide) ?_
      exact hQ (o_this.1, (p2 &&& (15 : Int32)), o_this.2.2.1, o_this.2.2.2) _ _ _ _ dX5_putPart_72 hF.symm hP hD hS
    · rw [if_neg c_3] at hF
      rcases Classical.em (p1 = (18 : Int32)) with c_4 | c_4
      · rw [if_pos c_4] at hF
        refine lv_tableIn (off := 50) (tgt := 51) hx hb dX5_putPart_1 (by rw [c_4]; decide) (by rw [c_4]; decide) (by rw [c_4]; decide) (by decide) ?_
        refine lv_aload_n hx hb dX5_putPart_51 rfl (lv_at hl 0 rfl) ?_
        refine lv_iload_n hx hb dX5_putPart_52 rfl (lv_at hl 2 rfl) ?_
        refine lv_bipush (v := 31) hx hb dX5_putPart_53 (by decide) ?_
        refine lv_iand hx hb dX5_putPart_55 ?_
        refine pf_X5_18 (x := (p2 &&& (31 : Int32))) hx hb hown ht hK hP hD hS 0 rfl (Nat.le_of_ble_eq_true rfl) dX5_putPart_56 (fun H locs hP hD hS => ?_)
        have hP : va_P D vwCl [(a_this, oX5 ((p2 &&& (31 : Int32)), o_this.2.1, o_this.2.2.1, o_this.2.2.2))] H := hP
        have hD : va_D A [(a_this, oX5 ((p2 &&& (31 : Int32)), o_this.2.1, o_this.2.2.1, o_this.2.2.2))] := hD
        refine lv_goto (tgt := 72) hx hb dX5_putPart_59 (by decide) ?_
        exact hQ ((p2 &&& (31 : Int32)), o_this.2.1, o_this.2.2.1, o_this.2.2.2) _ _ _ _ dX5_putPart_72 hF.symm hP hD hS
      · rw [if_neg c_4] at hF
        rcases Classical.em (p1 = (19 : Int32)) with c_5 | c_5
        · rw [if_pos c_5] at hF
          refine lv_tableIn (off := 61) (tgt := 62) hx hb dX5_putPart_1 (by rw [c_5]; decide) (by rw [c_5]; decide) (by rw [c_5]; decide) (by decide) ?_
          refine lv_aload_n hx hb dX5_putPart_62 rfl (lv_at hl 0 rfl) ?_
          refine lv_iload_n hx hb dX5_putPart_63 rfl (lv_at hl 2 rfl) ?_
          refine lv_iconst (v := 3) hx hb dX5_putPart_64 (by decide) ?_
          refine lv_iand hx hb dX5_putPart_65 ?_
          refine pf_X5_21 (x := (p2 &&& (3 : Int32))) hx hb hown ht hK hP hD hS 0 rfl (Nat.le_of_ble_eq_true rfl) dX5_putPart_66 (fun H locs hP hD hS => ?_)
          have hP : va_P D vwCl [(a_this, oX5 (o_this.1, o_this.2.1, (p2 &&& (3 : Int32)), o_this.2.2.2))] H := hP
          have hD : va_D A [(a_this, oX5 (o_this.1, o_this.2.1, (p2 &&& (3 : Int32)), o_this.2.2.2))] := hD
          refine lv_goto (tgt := 72) hx hb dX5_putPart_69 (by decide) ?_
          exact hQ (o_this.1, o_this.2.1, (p2 &&& (3 : Int32)), o_this.2.2.2) _ _ _ _ dX5_putPart_72 hF.symm hP hD hS
        · rw [if_neg c_5] at hF
          have hsw : (p1).toInt < 16 ∨ 19 < (p1).toInt := by
            have e0 := lv_neT c_1 (a := 16) (by decide)
            have e1 := lv_neT c_3 (a := 17) (by decide)
            have e2 := lv_neT c_4 (a := 18) (by decide)
            have e3 := lv_neT c_5 (a := 19) (by decide)
            omega
          refine lv_tableOut (tgt := 72) hx hb dX5_putPart_1 hsw (by decide) ?_
          exact hQ o_this _ _ _ _ dX5_putPart_72 hF.symm hP hD hS
theorem cv_X5_putPart : qV yX5_putPart cX5_putPart 3 none 2 := ⟨kc_X5_putPart, kt_X5_putPart, ks_X5_putPart, kn_X5, by decide, by decide +kernel⟩
def f_X5_allows (o_this : Int32 × Int32 × Int32 × Int32) (p1 : Int32) : Bool := (if (o_this.1 &&& p1) = 0 then false else true)
set_option linter.all false in
set_option maxHeartbeats 4000000 in
set_option maxRecDepth 100000 in
theorem c_X5_allows (l : Launch) (D : va_G) (a_this : Nat) (o_this : Int32 × Int32 × Int32 × Int32) (p1 : Int32) : CtI l yX5_allows cX5_allows 2 (some .boolean) { frames := 0, cells := 0, slots := 0, locals := 0 } D [.ref a_this, .int p1] [(a_this, oX5 o_this)] [] (fun (r : Int32) (u : Bool) => f_X5_allows o_this p1 = u ∧ r = bI u) (fun u => [(a_this, oX5 o_this)]) := by
  refine CtI.ofZ (by decide) (Nat.le_of_ble_eq_true rfl) ?_
  intro p e s m below meth c A ls Q hE hP hD hS hl hQ
  obtain ⟨hx, hb, hml, hown, ht, hN, hK, hA⟩ := hE
  have hown : s.vm.findClass RX5 = some m.cls := hown
  have hl : lv_has ls 2 [(0, .ref a_this), (1, .int p1)] := hl
  obtain ⟨F, hF⟩ : ∃ F, f_X5_allows o_this p1 = F := ⟨_, rfl⟩
  rw [hF] at hQ
  unfold f_X5_allows at hF
  refine lv_aload_n hx hb dX5_allows_0 rfl (lv_at hl 0 rfl) ?_
  refine gf_X5_18 (v := .int o_this.1) hx hb hown ht hK hP 0 rfl rfl dX5_allows_1 ?_
  refine lv_iload_n hx hb dX5_allows_4 rfl (lv_at hl 1 rfl) ?_
  refine lv_iand hx hb dX5_allows_5 ?_
  refine lv_if_eq (tgt := 13) hx hb dX5_allows_6 (by decide) (fun c_1 => ?_) (fun c_1 => ?_)
  · skip
    rw [if_pos c_1] at hF
    refine lv_iconst (v := 0) hx hb dX5_allows_13 (by decide) ?_
    exact hQ false false _ _ _ _ dX5_allows_14 ⟨hF.symm, rfl⟩ hP hD hS
  · skip
    rw [if_neg c_1] at hF
    refine lv_iconst (v := 1) hx hb dX5_allows_9 (by decide) ?_
    refine lv_goto (tgt := 14) hx hb dX5_allows_10 (by decide) ?_
    exact hQ true true _ _ _ _ dX5_allows_14 ⟨hF.symm, rfl⟩ hP hD hS
theorem cv_X5_allows : qV yX5_allows cX5_allows 2 (some .boolean) 1 := ⟨kc_X5_allows, kt_X5_allows, ks_X5_allows, kn_X5, by decide, by decide +kernel⟩
def f_X5_putTo (o_this : Int32 × Int32 × Int32 × Int32) (r_p1_bytes : Nat → Int32) (p2 : Int32) (p3 : Int32) : Nat → Int32 := (q_let (f_X6_putByte r_p1_bytes p2 o_this.1) fun w_1 => (q_let (f_X6_putByte w_1 (p2 + (1 : Int32)) ((o_this.2.1 * (16 : Int32)) + o_this.2.2.1)) fun w_2 => (q_let (f_X6_putHalf w_2 (p2 + (2 : Int32)) p3) fun w_3 => (q_let (f_X6_putHalf w_3 (p2 + (4 : Int32)) 0) fun w_4 => (q_let (f_X6_putHalf w_4 (p2 + (6 : Int32)) o_this.2.2.2) fun w_5 => w_5)))))
set_option linter.all false in
set_option maxHeartbeats 4000000 in
set_option maxRecDepth 100000 in
theorem c_X5_putTo (l : Launch) (D : va_G) (a_this a_p1 a_p1_bytes a_p1_keys : Nat) (k_p1_bytes : ClassId) (o_this : Int32 × Int32 × Int32 × Int32) (r_p1_bytes : Nat → Int32) (p2 : Int32) (p3 : Int32) : CtV l yX5_putTo cX5_putTo 4 none { frames := 2, cells := 0, slots := 0, locals := 44 } D [.ref a_this, .ref a_p1, .int p2, .int p3] [(a_this, oX5 o_this), (a_p1, oX6 a_p1_bytes a_p1_keys), (a_p1_bytes, .inl (k_p1_bytes, 2048, .inl r_p1_bytes))] [(k_p1_bytes, .byte)] (fun (u : Nat → Int32) => f_X5_putTo o_this r_p1_bytes p2 p3 = u) (fun u => [(a_this, oX5 o_this), (a_p1, oX6 a_p1_bytes a_p1_keys), (a_p1_bytes, .inl (k_p1_bytes, 2048, .inl u))]) := by
  refine CtV.of (by decide) (Nat.le_of_ble_eq_true rfl) ?_
  intro p e s m below meth c A ls Q hE hP hD hS hl hQ
  obtain ⟨hx, hb, hml, hown, ht, hN, hK, hA⟩ := hE
  have hown : s.vm.findClass RX5 = some m.cls := hown
  have hl : lv_has ls 4 [(0, .ref a_this), (1, .ref a_p1), (2, .int p2), (3, .int p3)] := hl
  obtain ⟨F, hF⟩ : ∃ F, f_X5_putTo o_this r_p1_bytes p2 p3 = F := ⟨_, rfl⟩
  rw [hF] at hQ
  unfold f_X5_putTo at hF
  refine lv_aload_n hx hb dX5_putTo_0 rfl (lv_at hl 1 rfl) ?_
  refine lv_iload_n hx hb dX5_putTo_1 rfl (lv_at hl 2 rfl) ?_
  refine lv_aload_n hx hb dX5_putTo_2 rfl (lv_at hl 0 rfl) ?_
  refine gf_X5_18 (v := .int o_this.1) hx hb hown ht hK hP 0 rfl rfl dX5_putTo_3 ?_
  refine q_Vv (rest := []) (c_X6_putByte l D a_p1 a_p1_bytes a_p1_keys k_p1_bytes r_p1_bytes p2 o_this.1) cv_X6_putByte hx hb hml hown ht hN hK hA hP hD hS hl.1 (km_X5_29) ⟨Nat.le_of_ble_eq_true rfl, Nat.le_of_ble_eq_true rfl⟩ rfl rfl [1, 2] (by decide) rfl [0] rfl (fun _ => rfl) (ci := 6) rfl rfl rfl rfl rfl (Nat.le_of_ble_eq_true rfl) dX5_putTo_6 ⟨Nat.zero_le _, Nat.zero_le _⟩ (fun w_1 H locs hw hP hD hS => ?_)
  have hP : va_P D vwCl [(a_this, oX5 o_this), (a_p1, oX6 a_p1_bytes a_p1_keys), (a_p1_bytes, .inl (k_p1_bytes, 2048, .inl w_1))] H := hP
  have hD : va_D A [(a_this, oX5 o_this), (a_p1, oX6 a_p1_bytes a_p1_keys), (a_p1_bytes, .inl (k_p1_bytes, 2048, .inl w_1))] := hD
  rw [q_let_of hw] at hF
  refine lv_aload_n hx hb dX5_putTo_9 rfl (lv_at hl 1 rfl) ?_
  refine lv_iload_n hx hb dX5_putTo_10 rfl (lv_at hl 2 rfl) ?_
  refine lv_iconst (v := 1) hx hb dX5_putTo_11 (by decide) ?_
  refine lv_iadd hx hb dX5_putTo_12 ?_
  refine lv_aload_n hx hb dX5_putTo_13 rfl (lv_at hl 0 rfl) ?_
  refine gf_X5_15 (v := .int o_this.2.1) hx hb hown ht hK hP 0 rfl rfl dX5_putTo_14 ?_
  refine lv_bipush (v := 16) hx hb dX5_putTo_17 (by decide) ?_
  refine lv_imul hx hb dX5_putTo_19 ?_
  refine lv_aload_n hx hb dX5_putTo_20 rfl (lv_at hl 0 rfl) ?_
  refine gf_X5_21 (v := .int o_this.2.2.1) hx hb hown ht hK hP 0 rfl rfl dX5_putTo_21 ?_
  refine lv_iadd hx hb dX5_putTo_24 ?_
  refine q_Vv (rest := []) (c_X6_putByte l D a_p1 a_p1_bytes a_p1_keys k_p1_bytes w_1 (p2 + (1 : Int32)) ((o_this.2.1 * (16 : Int32)) + o_this.2.2.1)) cv_X6_putByte hx hb hml hown ht hN hK hA hP hD hS hl.1 (km_X5_29) ⟨Nat.le_of_ble_eq_true rfl, Nat.le_of_ble_eq_true rfl⟩ rfl rfl [1, 2] (by decide) rfl [0] rfl (fun _ => rfl) (ci := 6) rfl rfl rfl rfl rfl (Nat.le_of_ble_eq_true rfl) dX5_putTo_25 ⟨Nat.zero_le _, Nat.zero_le _⟩ (fun w_2 H locs hw hP hD hS => ?_)
  have hP : va_P D vwCl [(a_this, oX5 o_this), (a_p1, oX6 a_p1_bytes a_p1_keys), (a_p1_bytes, .inl (k_p1_bytes, 2048, .inl w_2))] H := hP
  have hD : va_D A [(a_this, oX5 o_this), (a_p1, oX6 a_p1_bytes a_p1_keys), (a_p1_bytes, .inl (k_p1_bytes, 2048, .inl w_2))] := hD
  rw [q_let_of hw] at hF
  refine lv_aload_n hx hb dX5_putTo_28 rfl (lv_at hl 1 rfl) ?_
  refine lv_iload_n hx hb dX5_putTo_29 rfl (lv_at hl 2 rfl) ?_
  refine lv_iconst (v := 2) hx hb dX5_putTo_30 (by decide) ?_
  refine lv_iadd hx hb dX5_putTo_31 ?_
  refine lv_iload_n hx hb dX5_putTo_32 rfl (lv_at hl 3 rfl) ?_
  refine q_Vv (rest := []) (c_X6_putHalf l D a_p1 a_p1_bytes a_p1_keys k_p1_bytes w_2 (p2 + (2 : Int32)) p3) cv_X6_putHalf hx hb hml hown ht hN hK hA hP hD hS hl.1 (km_X5_35) ⟨Nat.le_of_ble_eq_true rfl, Nat.le_of_ble_eq_true rfl⟩ rfl rfl [1, 2] (by decide) rfl [0] rfl (fun _ => rfl) (ci := 6) rfl rfl rfl rfl rfl (Nat.le_of_ble_eq_true rfl) dX5_putTo_33 ⟨Nat.zero_le _, Nat.zero_le _⟩ (fun w_3 H locs hw hP hD hS => ?_)
  have hP : va_P D vwCl [(a_this, oX5 o_this), (a_p1, oX6 a_p1_bytes a_p1_keys), (a_p1_bytes, .inl (k_p1_bytes, 2048, .inl w_3))] H := hP
  have hD : va_D A [(a_this, oX5 o_this), (a_p1, oX6 a_p1_bytes a_p1_keys), (a_p1_bytes, .inl (k_p1_bytes, 2048, .inl w_3))] := hD
  rw [q_let_of hw] at hF
  refine lv_aload_n hx hb dX5_putTo_36 rfl (lv_at hl 1 rfl) ?_
  refine lv_iload_n hx hb dX5_putTo_37 rfl (lv_at hl 2 rfl) ?_
  refine lv_iconst (v := 4) hx hb dX5_putTo_38 (by decide) ?_
  refine lv_iadd hx hb dX5_putTo_39 ?_
  refine lv_iconst (v := 0) hx hb dX5_putTo_40 (by decide) ?_
  refine q_Vv (rest := []) (c_X6_putHalf l D a_p1 a_p1_bytes a_p1_keys k_p1_bytes w_3 (p2 + (4 : Int32)) 0) cv_X6_putHalf hx hb hml hown ht hN hK hA hP hD hS hl.1 (km_X5_35) ⟨Nat.le_of_ble_eq_true rfl, Nat.le_of_ble_eq_true rfl⟩ rfl rfl [1, 2] (by decide) rfl [0] rfl (fun _ => rfl) (ci := 6) rfl rfl rfl rfl rfl (Nat.le_of_ble_eq_true rfl) dX5_putTo_41 ⟨Nat.zero_le _, Nat.zero_le _⟩ (fun w_4 H locs hw hP hD hS => ?_)
  have hP : va_P D vwCl [(a_this, oX5 o_this), (a_p1, oX6 a_p1_bytes a_p1_keys), (a_p1_bytes, .inl (k_p1_bytes, 2048, .inl w_4))] H := hP
  have hD : va_D A [(a_this, oX5 o_this), (a_p1, oX6 a_p1_bytes a_p1_keys), (a_p1_bytes, .inl (k_p1_bytes, 2048, .inl w_4))] := hD
  rw [q_let_of hw] at hF
  refine lv_aload_n hx hb dX5_putTo_44 rfl (lv_at hl 1 rfl) ?_
  refine lv_iload_n hx hb dX5_putTo_45 rfl (lv_at hl 2 rfl) ?_
  refine lv_bipush (v := 6) hx hb dX5_putTo_46 (by decide) ?_
  refine lv_iadd hx hb dX5_putTo_48 ?_
  refine lv_aload_n hx hb dX5_putTo_49 rfl (lv_at hl 0 rfl) ?_
  refine gf_X5_9 (v := .int o_this.2.2.2) hx hb hown ht hK hP 0 rfl rfl dX5_putTo_50 ?_
  refine q_Vv (rest := []) (c_X6_putHalf l D a_p1 a_p1_bytes a_p1_keys k_p1_bytes w_4 (p2 + (6 : Int32)) o_this.2.2.2) cv_X6_putHalf hx hb hml hown ht hN hK hA hP hD hS hl.1 (km_X5_35) ⟨Nat.le_of_ble_eq_true rfl, Nat.le_of_ble_eq_true rfl⟩ rfl rfl [1, 2] (by decide) rfl [0] rfl (fun _ => rfl) (ci := 6) rfl rfl rfl rfl rfl (Nat.le_of_ble_eq_true rfl) dX5_putTo_53 ⟨Nat.zero_le _, Nat.zero_le _⟩ (fun w_5 H locs hw hP hD hS => ?_)
  have hP : va_P D vwCl [(a_this, oX5 o_this), (a_p1, oX6 a_p1_bytes a_p1_keys), (a_p1_bytes, .inl (k_p1_bytes, 2048, .inl w_5))] H := hP
  have hD : va_D A [(a_this, oX5 o_this), (a_p1, oX6 a_p1_bytes a_p1_keys), (a_p1_bytes, .inl (k_p1_bytes, 2048, .inl w_5))] := hD
  rw [q_let_of hw] at hF
  exact hQ w_5 _ _ _ _ dX5_putTo_56 hF.symm hP hD hS
theorem cv_X5_putTo : qV yX5_putTo cX5_putTo 4 none 3 := ⟨kc_X5_putTo, kt_X5_putTo, ks_X5_putTo, kn_X5, by decide, by decide +kernel⟩
def f_X5_loadFrom (r_p1_bytes : Nat → Int32) (p2 : Int32) : Int32 × Int32 × Int32 × Int32 := (((f_X6_byteAt r_p1_bytes p2) &&& (31 : Int32)), ((f_X6_byteAt r_p1_bytes (p2 + (1 : Int32))) >>> ((4 : Int32) &&& 31)), ((f_X6_byteAt r_p1_bytes (p2 + (1 : Int32))) &&& (3 : Int32)), (f_X6_halfAt r_p1_bytes (p2 + (6 : Int32))))
set_option linter.all false in
set_option maxHeartbeats 4000000 in
set_option maxRecDepth 100000 in
theorem c_X5_loadFrom (l : Launch) (D : va_G) (a_this a_p1 a_p1_bytes a_p1_keys : Nat) (k_p1_bytes : ClassId) (o_this : Int32 × Int32 × Int32 × Int32) (r_p1_bytes : Nat → Int32) (p2 : Int32) : CtV l yX5_loadFrom cX5_loadFrom 4 none { frames := 2, cells := 0, slots := 0, locals := 42 } D [.ref a_this, .ref a_p1, .int p2] [(a_this, oX5 o_this), (a_p1, oX6 a_p1_bytes a_p1_keys), (a_p1_bytes, .inl (k_p1_bytes, 2048, .inl r_p1_bytes))] [(k_p1_bytes, .byte)] (fun (u : Int32 × Int32 × Int32 × Int32) => f_X5_loadFrom r_p1_bytes p2 = u) (fun u => [(a_this, oX5 u), (a_p1, oX6 a_p1_bytes a_p1_keys), (a_p1_bytes, .inl (k_p1_bytes, 2048, .inl r_p1_bytes))]) := by
  refine CtV.of (by decide) (Nat.le_of_ble_eq_true rfl) ?_
  intro p e s m below meth c A ls Q hE hP hD hS hl hQ
  obtain ⟨hx, hb, hml, hown, ht, hN, hK, hA⟩ := hE
  have hown : s.vm.findClass RX5 = some m.cls := hown
  have hl : lv_has ls 4 [(0, .ref a_this), (1, .ref a_p1), (2, .int p2)] := hl
  obtain ⟨F, hF⟩ : ∃ F, f_X5_loadFrom r_p1_bytes p2 = F := ⟨_, rfl⟩
  rw [hF] at hQ
  unfold f_X5_loadFrom at hF
  refine lv_aload_n hx hb dX5_loadFrom_0 rfl (lv_at hl 1 rfl) ?_
  refine lv_iload_n hx hb dX5_loadFrom_1 rfl (lv_at hl 2 rfl) ?_
  refine lv_iconst (v := 1) hx hb dX5_loadFrom_2 (by decide) ?_
  refine lv_iadd hx hb dX5_loadFrom_3 ?_
  refine q_Vi (rest := []) (c_X6_byteAt l D a_p1 a_p1_bytes a_p1_keys k_p1_bytes r_p1_bytes (p2 + (1 : Int32))) cv_X6_byteAt hx hb hml hown ht hN hK hA hP hD hS hl.1 (km_X5_38) ⟨Nat.le_of_ble_eq_true rfl, Nat.le_of_ble_eq_true rfl⟩ rfl rfl [1, 2] (by decide) rfl [0] rfl (fun _ => rfl) (ci := 6) rfl rfl rfl rfl rfl (Nat.le_of_ble_eq_true rfl) dX5_loadFrom_4 ⟨Nat.zero_le _, Nat.zero_le _⟩ (fun r u H locs hw hP hD hS => ?_)
  obtain ⟨rfl, rfl⟩ := hw
  have hP : va_P D vwCl [(a_this, oX5 o_this), (a_p1, oX6 a_p1_bytes a_p1_keys), (a_p1_bytes, .inl (k_p1_bytes, 2048, .inl r_p1_bytes))] H := hP
  have hD : va_D A [(a_this, oX5 o_this), (a_p1, oX6 a_p1_bytes a_p1_keys), (a_p1_bytes, .inl (k_p1_bytes, 2048, .inl r_p1_bytes))] := hD
  refine lv_istore_n (lv' := [(3, .int (f_X6_byteAt r_p1_bytes (p2 + (1 : Int32)))), (0, .ref a_this), (1, .ref a_p1), (2, .int p2)]) hx hb dX5_loadFrom_7 rfl hl (by decide) rfl (fun ls hl => ?_)
  refine lv_aload_n hx hb dX5_loadFrom_8 rfl (lv_at hl 1 rfl) ?_
  refine lv_aload_n hx hb dX5_loadFrom_9 rfl (lv_at hl 2 rfl) ?_
  refine lv_iload_n hx hb dX5_loadFrom_10 rfl (lv_at hl 3 rfl) ?_
  refine q_Vi (rest := [.ref a_this]) (c_X6_byteAt l D a_p1 a_p1_bytes a_p1_keys k_p1_bytes r_p1_bytes p2) cv_X6_byteAt hx hb hml hown ht hN hK hA hP hD hS hl.1 (km_X5_38) ⟨Nat.le_of_ble_eq_true rfl, Nat.le_of_ble_eq_true rfl⟩ rfl rfl [1, 2] (by decide) rfl [0] rfl (fun _ => rfl) (ci := 6) rfl rfl rfl rfl rfl (Nat.le_of_ble_eq_true rfl) dX5_loadFrom_11 ⟨Nat.zero_le _, Nat.zero_le _⟩ (fun r u H locs hw hP hD hS => ?_)
  obtain ⟨rfl, rfl⟩ := hw
  have hP : va_P D vwCl [(a_this, oX5 o_this), (a_p1, oX6 a_p1_bytes a_p1_keys), (a_p1_bytes, .inl (k_p1_bytes, 2048, .inl r_p1_bytes))] H := hP
  have hD : va_D A [(a_this, oX5 o_this), (a_p1, oX6 a_p1_bytes a_p1_keys), (a_p1_bytes, .inl (k_p1_bytes, 2048, .inl r_p1_bytes))] := hD
  refine lv_bipush (v := 31) hx hb dX5_loadFrom_14 (by decide) ?_
  refine lv_iand hx hb dX5_loadFrom_16 ?_
  refine pf_X5_18 (x := ((f_X6_byteAt r_p1_bytes p2) &&& (31 : Int32))) hx hb hown ht hK hP hD hS 0 rfl (Nat.le_of_ble_eq_true rfl) dX5_loadFrom_17 (fun H locs hP hD hS => ?_)
  have hP : va_P D vwCl [(a_this, oX5 (((f_X6_byteAt r_p1_bytes p2) &&& (31 : Int32)), o_this.2.1, o_this.2.2.1, o_this.2.2.2)), (a_p1, oX6 a_p1_bytes a_p1_keys), (a_p1_bytes, .inl (k_p1_bytes, 2048, .inl r_p1_bytes))] H := hP
  have hD : va_D A [(a_this, oX5 (((f_X6_byteAt r_p1_bytes p2) &&& (31 : Int32)), o_this.2.1, o_this.2.2.1, o_this.2.2.2)), (a_p1, oX6 a_p1_bytes a_p1_keys), (a_p1_bytes, .inl (k_p1_bytes, 2048, .inl r_p1_bytes))] := hD
  refine lv_aload_n hx hb dX5_loadFrom_20 rfl (lv_at hl 1 rfl) ?_
  refine lv_iload_n hx hb dX5_loadFrom_21 rfl (lv_at hl 0 rfl) ?_
  refine lv_iconst (v := 4) hx hb dX5_loadFrom_22 (by decide) ?_
  refine lv_ishr hx hb dX5_loadFrom_23 ?_
  refine pf_X5_15 (x := ((f_X6_byteAt r_p1_bytes (p2 + (1 : Int32))) >>> ((4 : Int32) &&& 31))) hx hb hown ht hK hP hD hS 0 rfl (Nat.le_of_ble_eq_true rfl) dX5_loadFrom_24 (fun H locs hP hD hS => ?_)
  have hP : va_P D vwCl [(a_this, oX5 (((f_X6_byteAt r_p1_bytes p2) &&& (31 : Int32)), ((f_X6_byteAt r_p1_bytes (p2 + (1 : Int32))) >>> ((4 : Int32) &&& 31)), o_this.2.2.1, o_this.2.2.2)), (a_p1, oX6 a_p1_bytes a_p1_keys), (a_p1_bytes, .inl (k_p1_bytes, 2048, .inl r_p1_bytes))] H := hP
  have hD : va_D A [(a_this, oX5 (((f_X6_byteAt r_p1_bytes p2) &&& (31 : Int32)), ((f_X6_byteAt r_p1_bytes (p2 + (1 : Int32))) >>> ((4 : Int32) &&& 31)), o_this.2.2.1, o_this.2.2.2)), (a_p1, oX6 a_p1_bytes a_p1_keys), (a_p1_bytes, .inl (k_p1_bytes, 2048, .inl r_p1_bytes))] := hD
  refine lv_aload_n hx hb dX5_loadFrom_27 rfl (lv_at hl 1 rfl) ?_
  refine lv_iload_n hx hb dX5_loadFrom_28 rfl (lv_at hl 0 rfl) ?_
  refine lv_iconst (v := 3) hx hb dX5_loadFrom_29 (by decide) ?_
  refine lv_iand hx hb dX5_loadFrom_30 ?_
  refine pf_X5_21 (x := ((f_X6_byteAt r_p1_bytes (p2 + (1 : Int32))) &&& (3 : Int32))) hx hb hown ht hK hP hD hS 0 rfl (Nat.le_of_ble_eq_true rfl) dX5_loadFrom_31 (fun H locs hP hD hS => ?_)
  have hP : va_P D vwCl [(a_this, oX5 (((f_X6_byteAt r_p1_bytes p2) &&& (31 : Int32)), ((f_X6_byteAt r_p1_bytes (p2 + (1 : Int32))) >>> ((4 : Int32) &&& 31)), ((f_X6_byteAt r_p1_bytes (p2 + (1 : Int32))) &&& (3 : Int32)), o_this.2.2.2)), (a_p1, oX6 a_p1_bytes a_p1_keys), (a_p1_bytes, .inl (k_p1_bytes, 2048, .inl r_p1_bytes))] H := hP
  have hD : va_D A [(a_this, oX5 (((f_X6_byteAt r_p1_bytes p2) &&& (31 : Int32)), ((f_X6_byteAt r_p1_bytes (p2 + (1 : Int32))) >>> ((4 : Int32) &&& 31)), ((f_X6_byteAt r_p1_bytes (p2 + (1 : Int32))) &&& (3 : Int32)), o_this.2.2.2)), (a_p1, oX6 a_p1_bytes a_p1_keys), (a_p1_bytes, .inl (k_p1_bytes, 2048, .inl r_p1_bytes))] := hD
  refine lv_aload_n hx hb dX5_loadFrom_34 rfl (lv_at hl 1 rfl) ?_
  refine lv_aload_n hx hb dX5_loadFrom_35 rfl (lv_at hl 2 rfl) ?_
  refine lv_iload_n hx hb dX5_loadFrom_36 rfl (lv_at hl 3 rfl) ?_
  refine lv_bipush (v := 6) hx hb dX5_loadFrom_37 (by decide) ?_
  refine lv_iadd hx hb dX5_loadFrom_39 ?_
  refine q_Vi (rest := [.ref a_this]) (c_X6_halfAt l D a_p1 a_p1_bytes a_p1_keys k_p1_bytes r_p1_bytes (p2 + (6 : Int32))) cv_X6_halfAt hx hb hml hown ht hN hK hA hP hD hS hl.1 (km_X5_42) ⟨Nat.le_of_ble_eq_true rfl, Nat.le_of_ble_eq_true rfl⟩ rfl rfl [1, 2] (by decide) rfl [0] rfl (fun _ => rfl) (ci := 6) rfl rfl rfl rfl rfl (Nat.le_of_ble_eq_true rfl) dX5_loadFrom_40 ⟨Nat.zero_le _, Nat.zero_le _⟩ (fun r u H locs hw hP hD hS => ?_)
  obtain ⟨rfl, rfl⟩ := hw
  have hP : va_P D vwCl [(a_this, oX5 (((f_X6_byteAt r_p1_bytes p2) &&& (31 : Int32)), ((f_X6_byteAt r_p1_bytes (p2 + (1 : Int32))) >>> ((4 : Int32) &&& 31)), ((f_X6_byteAt r_p1_bytes (p2 + (1 : Int32))) &&& (3 : Int32)), o_this.2.2.2)), (a_p1, oX6 a_p1_bytes a_p1_keys), (a_p1_bytes, .inl (k_p1_bytes, 2048, .inl r_p1_bytes))] H := hP
  have hD : va_D A [(a_this, oX5 (((f_X6_byteAt r_p1_bytes p2) &&& (31 : Int32)), ((f_X6_byteAt r_p1_bytes (p2 + (1 : Int32))) >>> ((4 : Int32) &&& 31)), ((f_X6_byteAt r_p1_bytes (p2 + (1 : Int32))) &&& (3 : Int32)), o_this.2.2.2)), (a_p1, oX6 a_p1_bytes a_p1_keys), (a_p1_bytes, .inl (k_p1_bytes, 2048, .inl r_p1_bytes))] := hD
  refine pf_X5_9 (x := (f_X6_halfAt r_p1_bytes (p2 + (6 : Int32)))) hx hb hown ht hK hP hD hS 0 rfl (Nat.le_of_ble_eq_true rfl) dX5_loadFrom_43 (fun H locs hP hD hS => ?_)
  have hP : va_P D vwCl [(a_this, oX5 (((f_X6_byteAt r_p1_bytes p2) &&& (31 : Int32)), ((f_X6_byteAt r_p1_bytes (p2 + (1 : Int32))) >>> ((4 : Int32) &&& 31)), ((f_X6_byteAt r_p1_bytes (p2 + (1 : Int32))) &&& (3 : Int32)), (f_X6_halfAt r_p1_bytes (p2 + (6 : Int32))))), (a_p1, oX6 a_p1_bytes a_p1_keys), (a_p1_bytes, .inl (k_p1_bytes, 2048, .inl r_p1_bytes))] H := hP
  have hD : va_D A [(a_this, oX5 (((f_X6_byteAt r_p1_bytes p2) &&& (31 : Int32)), ((f_X6_byteAt r_p1_bytes (p2 + (1 : Int32))) >>> ((4 : Int32) &&& 31)), ((f_X6_byteAt r_p1_bytes (p2 + (1 : Int32))) &&& (3 : Int32)), (f_X6_halfAt r_p1_bytes (p2 + (6 : Int32))))), (a_p1, oX6 a_p1_bytes a_p1_keys), (a_p1_bytes, .inl (k_p1_bytes, 2048, .inl r_p1_bytes))] := hD
  exact hQ (((f_X6_byteAt r_p1_bytes p2) &&& (31 : Int32)), ((f_X6_byteAt r_p1_bytes (p2 + (1 : Int32))) >>> ((4 : Int32) &&& 31)), ((f_X6_byteAt r_p1_bytes (p2 + (1 : Int32))) &&& (3 : Int32)), (f_X6_halfAt r_p1_bytes (p2 + (6 : Int32)))) _ _ _ _ dX5_loadFrom_46 hF.symm hP hD hS
theorem cv_X5_loadFrom : qV yX5_loadFrom cX5_loadFrom 4 none 2 := ⟨kc_X5_loadFrom, kt_X5_loadFrom, ks_X5_loadFrom, kn_X5, by decide, by decide +kernel⟩
