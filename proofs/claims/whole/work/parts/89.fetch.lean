/-! an instruction is fetched, both sides -/
def opsRR : List Nat := [5, 7, 8, 9, 10, 18, 20, 22, 23, 24, 25, 26, 27, 28, 29]
def opsRX : List Nat := [64, 65, 66, 67, 69, 70, 71, 72, 73, 74, 78, 79, 80, 88, 89, 90, 91]
def opsRS : List Nat := [130, 136, 137, 138, 144, 145, 146, 148, 149, 150, 152, 156, 157]
def opsSS : List Nat := [210, 213, 220, 248, 249, 250, 251]
theorem kRR : ∀ n, n < 64 → (¬ f_X8_kindOf (nI n) = 0 ↔ n ∈ opsRR) := by decide +kernel
theorem kRX : ∀ n, n < 128 → 64 ≤ n → (¬ f_X8_kindOf (nI n) = 0 ↔ n ∈ opsRX) := by decide +kernel
theorem kRS : ∀ n, n < 192 → 128 ≤ n → (¬ f_X8_kindOf (nI n) = 0 ↔ n ∈ opsRS) := by decide +kernel
theorem kSS : ∀ n, n < 256 → 192 ≤ n → (¬ f_X8_kindOf (nI n) = 0 ↔ n ∈ opsSS) := by decide +kernel
theorem kPriv : ∀ n, n < 256 → (f_X8_kindOf (nI n) = 2 ↔ (nI n = 8 ∨ nI n = 9 ∨ nI n = 130 ∨ nI n = 156 ∨ nI n = 157)) := by decide +kernel
theorem priv_iff (x1 : Bool) (x2 x3 x4 : Int32) (n : Nat) (hn : n < 256) (imm rx sx pl opl : Int32) : f_X3_isPrivileged (x1, x2, x3, x4, nI n, imm, rx, sx, pl, opl) = true ↔ f_X8_kindOf (nI n) = 2 := by
  rw [kPriv n hn]
  unfold f_X3_isPrivileged
  dsimp only
  by_cases c1 : nI n = 8
  · rw [if_pos c1]; exact ⟨fun _ => Or.inl c1, fun _ => rfl⟩
  · rw [if_neg c1]
    by_cases c2 : nI n = 9
    · rw [if_pos c2]; exact ⟨fun _ => Or.inr (Or.inl c2), fun _ => rfl⟩
    · rw [if_neg c2]
      by_cases c3 : nI n = 130
      · rw [if_pos c3]; exact ⟨fun _ => Or.inr (Or.inr (Or.inl c3)), fun _ => rfl⟩
      · rw [if_neg c3]
        by_cases c4 : nI n = 156
        · rw [if_pos c4]; exact ⟨fun _ => Or.inr (Or.inr (Or.inr (Or.inl c4))), fun _ => rfl⟩
        · rw [if_neg c4]
          by_cases c5 : nI n = 157
          · rw [if_pos c5]; exact ⟨fun _ => Or.inr (Or.inr (Or.inr (Or.inr c5))), fun _ => rfl⟩
          · rw [if_neg c5]
            exact ⟨fun q => (by cases q), fun q => (by rcases q with z | z | z | z | z; exact absurd z c1; exact absurd z c2; exact absurd z c3; exact absurd z c4; exact absurd z c5)⟩
theorem noRR (x1 : Bool) (x2 x3 x4 : Int32) (n : Nat) (hn : n < 256) (imm rx sx pl opl : Int32) (G : rw_) (T : tT) (B K : rw_) (h : ¬ n ∈ opsRR) : f_X3_doRr (x1, x2, x3, x4, nI n, imm, rx, sx, pl, opl) G T B K = (1, G, T, B, K) := by
  have h5 : ¬ nI n = 5 := fun q => h (by rw [(nI_eq (b := 5) (by omega) (by omega)).mp q]; decide)
  have h7 : ¬ nI n = 7 := fun q => h (by rw [(nI_eq (b := 7) (by omega) (by omega)).mp q]; decide)
  have h8 : ¬ nI n = 8 := fun q => h (by rw [(nI_eq (b := 8) (by omega) (by omega)).mp q]; decide)
  have h9 : ¬ nI n = 9 := fun q => h (by rw [(nI_eq (b := 9) (by omega) (by omega)).mp q]; decide)
  have h10 : ¬ nI n = 10 := fun q => h (by rw [(nI_eq (b := 10) (by omega) (by omega)).mp q]; decide)
  have h18 : ¬ nI n = 18 := fun q => h (by rw [(nI_eq (b := 18) (by omega) (by omega)).mp q]; decide)
  have h20 : ¬ nI n = 20 := fun q => h (by rw [(nI_eq (b := 20) (by omega) (by omega)).mp q]; decide)
  have h22 : ¬ nI n = 22 := fun q => h (by rw [(nI_eq (b := 22) (by omega) (by omega)).mp q]; decide)
  have h23 : ¬ nI n = 23 := fun q => h (by rw [(nI_eq (b := 23) (by omega) (by omega)).mp q]; decide)
  have h24 : ¬ nI n = 24 := fun q => h (by rw [(nI_eq (b := 24) (by omega) (by omega)).mp q]; decide)
  have h25 : ¬ nI n = 25 := fun q => h (by rw [(nI_eq (b := 25) (by omega) (by omega)).mp q]; decide)
  have h26 : ¬ nI n = 26 := fun q => h (by rw [(nI_eq (b := 26) (by omega) (by omega)).mp q]; decide)
  have h27 : ¬ nI n = 27 := fun q => h (by rw [(nI_eq (b := 27) (by omega) (by omega)).mp q]; decide)
  have h28 : ¬ nI n = 28 := fun q => h (by rw [(nI_eq (b := 28) (by omega) (by omega)).mp q]; decide)
  have h29 : ¬ nI n = 29 := fun q => h (by rw [(nI_eq (b := 29) (by omega) (by omega)).mp q]; decide)
  unfold f_X3_doRr
  dsimp only
  simp only [if_neg h5, if_neg h7, if_neg h8, if_neg h9, if_neg h10, if_neg h18, if_neg h20, if_neg h22, if_neg h23, if_neg h24, if_neg h25, if_neg h26, if_neg h27, if_neg h28, if_neg h29, ite_self]
theorem noRX (x1 : Bool) (x2 x3 x4 : Int32) (n : Nat) (hn : n < 256) (imm rx sx pl opl : Int32) (F : Bool) (Fd G : rw_) (T : tT) (B K : rw_) (h : ¬ n ∈ opsRX) : f_X3_doRx (x1, x2, x3, x4, nI n, imm, rx, sx, pl, opl) F Fd G T B K = (1, F, Fd, G, T, B) := by
  have h64 : ¬ nI n = 64 := fun q => h (by rw [(nI_eq (b := 64) (by omega) (by omega)).mp q]; decide)
  have h65 : ¬ nI n = 65 := fun q => h (by rw [(nI_eq (b := 65) (by omega) (by omega)).mp q]; decide)
  have h66 : ¬ nI n = 66 := fun q => h (by rw [(nI_eq (b := 66) (by omega) (by omega)).mp q]; decide)
  have h67 : ¬ nI n = 67 := fun q => h (by rw [(nI_eq (b := 67) (by omega) (by omega)).mp q]; decide)
  have h69 : ¬ nI n = 69 := fun q => h (by rw [(nI_eq (b := 69) (by omega) (by omega)).mp q]; decide)
  have h70 : ¬ nI n = 70 := fun q => h (by rw [(nI_eq (b := 70) (by omega) (by omega)).mp q]; decide)
  have h71 : ¬ nI n = 71 := fun q => h (by rw [(nI_eq (b := 71) (by omega) (by omega)).mp q]; decide)
  have h72 : ¬ nI n = 72 := fun q => h (by rw [(nI_eq (b := 72) (by omega) (by omega)).mp q]; decide)
  have h73 : ¬ nI n = 73 := fun q => h (by rw [(nI_eq (b := 73) (by omega) (by omega)).mp q]; decide)
  have h74 : ¬ nI n = 74 := fun q => h (by rw [(nI_eq (b := 74) (by omega) (by omega)).mp q]; decide)
  have h78 : ¬ nI n = 78 := fun q => h (by rw [(nI_eq (b := 78) (by omega) (by omega)).mp q]; decide)
  have h79 : ¬ nI n = 79 := fun q => h (by rw [(nI_eq (b := 79) (by omega) (by omega)).mp q]; decide)
  have h80 : ¬ nI n = 80 := fun q => h (by rw [(nI_eq (b := 80) (by omega) (by omega)).mp q]; decide)
  have h88 : ¬ nI n = 88 := fun q => h (by rw [(nI_eq (b := 88) (by omega) (by omega)).mp q]; decide)
  have h89 : ¬ nI n = 89 := fun q => h (by rw [(nI_eq (b := 89) (by omega) (by omega)).mp q]; decide)
  have h90 : ¬ nI n = 90 := fun q => h (by rw [(nI_eq (b := 90) (by omega) (by omega)).mp q]; decide)
  have h91 : ¬ nI n = 91 := fun q => h (by rw [(nI_eq (b := 91) (by omega) (by omega)).mp q]; decide)
  unfold f_X3_doRx
  dsimp only
  simp only [if_neg h64, if_neg h65, if_neg h66, if_neg h67, if_neg h69, if_neg h70, if_neg h71, if_neg h72, if_neg h73, if_neg h74, if_neg h78, if_neg h79, if_neg h80, if_neg h88, if_neg h89, if_neg h90, if_neg h91, ite_self]
theorem noRS (x1 : Bool) (x2 x3 x4 : Int32) (n : Nat) (hn : n < 256) (imm rx sx pl opl : Int32) (C : tCh) (G : rw_) (T : tT) (B K : rw_) (h : ¬ n ∈ opsRS) : f_X3_doRsOrSi (x1, x2, x3, x4, nI n, imm, rx, sx, pl, opl) C G T B K = (1, C, G, T, B) := by
  have h130 : ¬ nI n = 130 := fun q => h (by rw [(nI_eq (b := 130) (by omega) (by omega)).mp q]; decide)
  have h136 : ¬ nI n = 136 := fun q => h (by rw [(nI_eq (b := 136) (by omega) (by omega)).mp q]; decide)
  have h137 : ¬ nI n = 137 := fun q => h (by rw [(nI_eq (b := 137) (by omega) (by omega)).mp q]; decide)
  have h138 : ¬ nI n = 138 := fun q => h (by rw [(nI_eq (b := 138) (by omega) (by omega)).mp q]; decide)
  have h144 : ¬ nI n = 144 := fun q => h (by rw [(nI_eq (b := 144) (by omega) (by omega)).mp q]; decide)
  have h145 : ¬ nI n = 145 := fun q => h (by rw [(nI_eq (b := 145) (by omega) (by omega)).mp q]; decide)
  have h146 : ¬ nI n = 146 := fun q => h (by rw [(nI_eq (b := 146) (by omega) (by omega)).mp q]; decide)
  have h148 : ¬ nI n = 148 := fun q => h (by rw [(nI_eq (b := 148) (by omega) (by omega)).mp q]; decide)
  have h149 : ¬ nI n = 149 := fun q => h (by rw [(nI_eq (b := 149) (by omega) (by omega)).mp q]; decide)
  have h150 : ¬ nI n = 150 := fun q => h (by rw [(nI_eq (b := 150) (by omega) (by omega)).mp q]; decide)
  have h152 : ¬ nI n = 152 := fun q => h (by rw [(nI_eq (b := 152) (by omega) (by omega)).mp q]; decide)
  have h156 : ¬ nI n = 156 := fun q => h (by rw [(nI_eq (b := 156) (by omega) (by omega)).mp q]; decide)
  have h157 : ¬ nI n = 157 := fun q => h (by rw [(nI_eq (b := 157) (by omega) (by omega)).mp q]; decide)
  unfold f_X3_doRsOrSi
  dsimp only
  simp only [if_neg h130, if_neg h136, if_neg h137, if_neg h138, if_neg h144, if_neg h145, if_neg h146, if_neg h148, if_neg h149, if_neg h150, if_neg h152, if_neg h156, if_neg h157, ite_self]
theorem noSS (x1 : Bool) (x2 x3 x4 : Int32) (n : Nat) (hn : n < 256) (imm rx sx pl opl : Int32) (F : Bool) (Fd : rw_) (Z : Bool) (Zd : rw_) (T : tT) (B K : rw_) (h : ¬ n ∈ opsSS) : f_X3_doSs (x1, x2, x3, x4, nI n, imm, rx, sx, pl, opl) F Fd Z Zd T B K = (1, F, Fd, Z, Zd, T, B) := by
  have h210 : ¬ nI n = 210 := fun q => h (by rw [(nI_eq (b := 210) (by omega) (by omega)).mp q]; decide)
  have h213 : ¬ nI n = 213 := fun q => h (by rw [(nI_eq (b := 213) (by omega) (by omega)).mp q]; decide)
  have h220 : ¬ nI n = 220 := fun q => h (by rw [(nI_eq (b := 220) (by omega) (by omega)).mp q]; decide)
  have h248 : ¬ nI n = 248 := fun q => h (by rw [(nI_eq (b := 248) (by omega) (by omega)).mp q]; decide)
  have h249 : ¬ nI n = 249 := fun q => h (by rw [(nI_eq (b := 249) (by omega) (by omega)).mp q]; decide)
  have h250 : ¬ nI n = 250 := fun q => h (by rw [(nI_eq (b := 250) (by omega) (by omega)).mp q]; decide)
  have h251 : ¬ nI n = 251 := fun q => h (by rw [(nI_eq (b := 251) (by omega) (by omega)).mp q]; decide)
  unfold f_X3_doSs
  dsimp only
  simp only [if_neg h210, if_neg h213, if_neg h220, if_neg h248, if_neg h249, if_neg h250, if_neg h251, ite_self]
theorem okRR (n : Nat) (h : n ∈ opsRR) : RRok (nI n) := by
  simp only [opsRR, List.mem_cons, List.not_mem_nil, or_false] at h
  rcases h with rfl | rfl | rfl | rfl | rfl | rfl | rfl | rfl | rfl | rfl | rfl | rfl | rfl | rfl | rfl
  · exact rr_5
  · exact rr_7
  · exact rr_8
  · exact rr_9
  · exact rr_10
  · exact rr_18
  · exact rr_20
  · exact rr_22
  · exact rr_23
  · exact rr_24
  · exact rr_25
  · exact rr_26
  · exact rr_27
  · exact rr_28
  · exact rr_29
theorem okRX (n : Nat) (h : n ∈ opsRX) : RXok (nI n) := by
  simp only [opsRX, List.mem_cons, List.not_mem_nil, or_false] at h
  rcases h with rfl | rfl | rfl | rfl | rfl | rfl | rfl | rfl | rfl | rfl | rfl | rfl | rfl | rfl | rfl | rfl | rfl
  · exact rx_64
  · exact rx_65
  · exact rx_66
  · exact rx_67
  · exact rx_69
  · exact rx_70
  · exact rx_71
  · exact rx_72
  · exact rx_73
  · exact rx_74
  · exact rx_78
  · exact rx_79
  · exact rx_80
  · exact rx_88
  · exact rx_89
  · exact rx_90
  · exact rx_91
theorem okRS (n : Nat) (h : n ∈ opsRS) : RCok (nI n) := by
  simp only [opsRS, List.mem_cons, List.not_mem_nil, or_false] at h
  rcases h with rfl | rfl | rfl | rfl | rfl | rfl | rfl | rfl | rfl | rfl | rfl | rfl | rfl
  · exact rc_of rs_130
  · exact rc_of rs_136
  · exact rc_of rs_137
  · exact rc_of rs_138
  · exact rc_of rs_144
  · exact rc_of rs_145
  · exact rc_of rs_146
  · exact rc_of rs_148
  · exact rc_of rs_149
  · exact rc_of rs_150
  · exact rc_of rs_152
  · exact rc_156
  · exact rc_157
theorem okSS (n : Nat) (h : n ∈ opsSS) : SSok (nI n) := by
  simp only [opsSS, List.mem_cons, List.not_mem_nil, or_false] at h
  rcases h with rfl | rfl | rfl | rfl | rfl | rfl | rfl
  · exact ss_210
  · exact ss_213
  · exact ss_220
  · exact ss_248
  · exact ss_249
  · exact ss_250
  · exact ss_251
/-- the place that an operand names -/
theorem eff_eq (G B : rw_) (p x : Nat) (hp : p + 2 ≤ 2048) (hx : x < 16) : ∃ a, a < 2 ^ 24 ∧ f_X3_operandAt G B (nI p) (nI x) = nI a ∧ f_X8_effective (uB B) G (nI p) (nI x) = nI a ∧ s_X8_effective (uB B) (nI p) (nI x) := by
  have h0 := nB_lt B p
  have h1 := nB_lt B (p + 1)
  have hh : f_X6_halfAt B (nI p) = nI (nB B p * 256 + nB B (p + 1)) := by rw [halfAt_eq B p hp, half_nI B hp]
  have e12 : nI (nB B p * 256 + nB B (p + 1)) >>> ((12 : Int32) &&& 31) = nI (nB B p / 16) := (pk_shrN (by omega) _ 12 (by decide)).trans (by congr 1; omega)
  have e4 : nI (nB B p * 256 + nB B (p + 1)) &&& (4095 : Int32) = nI (nB B p % 16 * 256 + nB B (p + 1)) := (pk_andN (by omega) 12 (by decide)).trans (by congr 1; omega)
  have r1 : nI p + (1 : Int32) = nI (p + 1) := nI_1 p
  have r2 : uB B p / (16 : Int32) = nI (nB B p / 16) := by rw [uB_nB]; exact pk_div (d := 16) (by omega) (by omega) (by omega)
  have r3 : uB B p - nI (nB B p / 16) * (16 : Int32) = nI (nB B p % 16) := by
    rw [← r2, uB_nB]; exact pk_rem (d := 16) (by omega) (by omega) (by omega)
  have r4 : nI (nB B p % 16) * (256 : Int32) + uB B (p + 1) = nI (nB B p % 16 * 256 + nB B (p + 1)) := by
    rw [show nI (nB B p % 16) * (256 : Int32) = nI (nB B p % 16 * 256) from pk_mul _ 256, uB_nB, nI_add]
  have c1 : (nI p).toNatClampNeg = p := nI_clamp (by omega)
  have c2 : (nI (p + 1)).toNatClampNeg = p + 1 := nI_clamp (by omega)
  have c3 : (nI x).toNatClampNeg = x := nI_clamp (by omega)
  have c4 : (nI (nB B p / 16)).toNatClampNeg = nB B p / 16 := nI_clamp (by omega)
  have z1 : nI (nB B p / 16) = 0 ↔ nB B p / 16 = 0 := nI_eq (b := 0) (by omega) (by omega)
  have z2 : nI (nB B p / 16) ≤ 0 ↔ nB B p / 16 ≤ 0 := nI_leI (b := 0) (by omega) (by omega)
  have z3 : nI x = 0 ↔ x = 0 := nI_eq (b := 0) (by omega) (by omega)
  have z4 : nI x ≤ 0 ↔ x ≤ 0 := nI_leI (b := 0) (by omega) (by omega)
  have v1 : vp_in (nI p) 2048 := vp_in_nI (by omega) (by omega)
  have v2 : vp_in (nI (p + 1)) 2048 := vp_in_nI (by omega) (by omega)
  have v3 : vp_in (nI x) 16 := vp_in_nI (by omega) (by omega)
  have v4 : vp_in (nI (nB B p / 16)) 16 := vp_in_nI (by omega) (by omega)
  have key : ∀ y : Int32, ∃ a, a < 2 ^ 24 ∧ y &&& (16777215 : Int32) = nI a := fun y => pk_andE y 24 (by decide)
  unfold f_X3_operandAt f_X8_effective s_X8_effective
  rw [hh, e12, e4, r1, c1, c2, r2, r3, r4, c3, c4, reg_in G x hx, reg_in G (nB B p / 16) (by omega)]
  simp only [Int32.add_zero]
  by_cases b0 : nB B p / 16 = 0
  · rw [if_pos (z1.mpr b0), if_pos (z2.mpr (by omega)), if_pos (z2.mpr (by omega))]
    by_cases x0 : x = 0
    · rw [if_pos (z3.mpr x0), if_pos (z4.mpr (by omega)), if_pos (z4.mpr (by omega))]
      obtain ⟨a, h2, h3⟩ := key (nI (nB B p % 16 * 256 + nB B (p + 1)))
      exact ⟨a, h2, h3, h3, v1, v1, v2, trivial⟩
    · have m1 : ¬ nI x = 0 := fun q => x0 (z3.mp q)
      have m2 : ¬ nI x ≤ 0 := fun q => x0 (by have := z4.mp q; omega)
      rw [if_neg m1, if_neg m2, if_neg m2]
      obtain ⟨a, h2, h3⟩ := key (nI (nB B p % 16 * 256 + nB B (p + 1)) + G x)
      exact ⟨a, h2, h3, h3, v1, v1, v2, v3⟩
  · have n1 : ¬ nI (nB B p / 16) = 0 := fun q => b0 (z1.mp q)
    have n2 : ¬ nI (nB B p / 16) ≤ 0 := fun q => b0 (by have := z2.mp q; omega)
    rw [if_neg n1, if_neg n2, if_neg n2]
    by_cases x0 : x = 0
    · rw [if_pos (z3.mpr x0), if_pos (z4.mpr (by omega)), if_pos (z4.mpr (by omega))]
      obtain ⟨a, h2, h3⟩ := key (nI (nB B p % 16 * 256 + nB B (p + 1)) + G (nB B p / 16))
      exact ⟨a, h2, h3, h3, v1, v1, v2, v4, trivial⟩
    · have m1 : ¬ nI x = 0 := fun q => x0 (z3.mp q)
      have m2 : ¬ nI x ≤ 0 := fun q => x0 (by have := z4.mp q; omega)
      rw [if_neg m1, if_neg m2, if_neg m2]
      obtain ⟨a, h2, h3⟩ := key (nI (nB B p % 16 * 256 + nB B (p + 1)) + G (nB B p / 16) + G x)
      exact ⟨a, h2, h3, h3, v1, v1, v2, v4, v3⟩
/-- the number of the operation, the length -/
def opN (B : rw_) (A : Nat) : Nat := if A < 2048 then nB B A else 0
def lnN (n : Nat) : Nat := if n < 64 then 2 else if n < 192 then 4 else 6
theorem opN_lt (B : rw_) (A : Nat) : opN B A < 256 := by
  unfold opN
  have := nB_lt B A
  split <;> omega
theorem opN_c (B : rw_) (A : Nat) (hA : A < 65536) : f_X6_byteAt B (nI A) = nI (opN B A) := by
  unfold opN
  by_cases c : A < 2048
  · rw [if_pos c, byteAt_in B A c, uB_nB]
  · rw [if_neg c]
    unfold f_X6_byteAt
    rw [if_neg (nI_pos (by omega)), if_pos (show (2048 : Int32) ≤ nI A from nI_le (a := 2048) (by omega) (by omega))]
    rfl
theorem opN_r (B : rw_) (A : Nat) (hA : A < 65536) : (if (2048 : Int32) ≤ nI A then 0 else uB B (nI A).toNatClampNeg) = nI (opN B A) := by
  unfold opN
  by_cases c : A < 2048
  · rw [if_pos c, if_neg (show ¬ (2048 : Int32) ≤ nI A from nI_ge (b := 2048) (by omega) (by omega)), nI_clamp (by omega), uB_nB]
  · rw [if_neg c, if_pos (show (2048 : Int32) ≤ nI A from nI_le (a := 2048) (by omega) (by omega))]
    rfl
theorem lnN_eq (n : Nat) (hn : n < 256) : (if (64 : Int32) ≤ nI n then (if (192 : Int32) ≤ nI n then (6 : Int32) else 4) else 2) = nI (lnN n) := by
  unfold lnN
  have e1 : (64 : Int32) ≤ nI n ↔ 64 ≤ n := nI_leI (a := 64) (by omega) (by omega)
  have e2 : (192 : Int32) ≤ nI n ↔ 192 ≤ n := nI_leI (a := 192) (by omega) (by omega)
  by_cases c : n < 64
  · rw [if_pos c, if_neg (fun q => by have := e1.mp q; omega)]; rfl
  · rw [if_neg c, if_pos (e1.mpr (by omega))]
    by_cases c2 : n < 192
    · rw [if_pos c2, if_neg (fun q => by have := e2.mp q; omega)]; rfl
    · rw [if_neg c2, if_pos (e2.mpr (by omega))]; rfl
theorem lnN_b (n : Nat) : 2 ≤ lnN n ∧ lnN n ≤ 6 := by
  unfold lnN
  split
  · omega
  · split <;> omega
