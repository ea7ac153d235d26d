/-! the step behind the timer, both sides -/
abbrev tS : Type := tP × tCh × Bool × rw_ × rw_ × Bool × rw_ × tT × rw_ × rw_
def tailC (P : tP) (C : tCh) (F : Bool) (Fd G : rw_) (Z : Bool) (Zd : rw_) (T : tT) (B K : rw_) : tS := (q_let (f_X3_fetchInstruction P G T B) fun w_4 => (if w_4.1 = 0 then (if (w_4.2.1.2.2.2.2.1 >>> ((6 : Int32) &&& 31)) = (0 : Int32) then (q_let (f_X3_doRr w_4.2.1 G w_4.2.2 B K) fun w_9 => (if w_9.1 = 0 then (w_4.2.1, C, F, Fd, w_9.2.1, Z, Zd, w_9.2.2.1, w_9.2.2.2.1, w_9.2.2.2.2) else (q_let (f_X3_interrupt w_9.2.2.1 w_9.2.2.2.1 40 104 w_9.1) fun w_11 => ((w_4.2.1.1, w_4.2.1.2.1, (w_4.2.1.2.2.1 + (1 : Int32)), w_9.1, w_4.2.1.2.2.2.2.1, w_4.2.1.2.2.2.2.2.1, w_4.2.1.2.2.2.2.2.2.1, w_4.2.1.2.2.2.2.2.2.2.1, w_4.2.1.2.2.2.2.2.2.2.2.1, w_4.2.1.2.2.2.2.2.2.2.2.2), C, F, Fd, w_9.2.1, Z, Zd, w_11.1, w_11.2, w_9.2.2.2.2)))) else (if (w_4.2.1.2.2.2.2.1 >>> ((6 : Int32) &&& 31)) = (1 : Int32) then (q_let (f_X3_doRx w_4.2.1 F Fd G w_4.2.2 B K) fun w_13 => (if w_13.1 = 0 then (w_4.2.1, C, w_13.2.1, w_13.2.2.1, w_13.2.2.2.1, Z, Zd, w_13.2.2.2.2.1, w_13.2.2.2.2.2, K) else (q_let (f_X3_interrupt w_13.2.2.2.2.1 w_13.2.2.2.2.2 40 104 w_13.1) fun w_15 => ((w_4.2.1.1, w_4.2.1.2.1, (w_4.2.1.2.2.1 + (1 : Int32)), w_13.1, w_4.2.1.2.2.2.2.1, w_4.2.1.2.2.2.2.2.1, w_4.2.1.2.2.2.2.2.2.1, w_4.2.1.2.2.2.2.2.2.2.1, w_4.2.1.2.2.2.2.2.2.2.2.1, w_4.2.1.2.2.2.2.2.2.2.2.2), C, w_13.2.1, w_13.2.2.1, w_13.2.2.2.1, Z, Zd, w_15.1, w_15.2, K)))) else (if (w_4.2.1.2.2.2.2.1 >>> ((6 : Int32) &&& 31)) = (2 : Int32) then (q_let (f_X3_doRsOrSi w_4.2.1 C G w_4.2.2 B K) fun w_17 => (if w_17.1 = 0 then (w_4.2.1, w_17.2.1, F, Fd, w_17.2.2.1, Z, Zd, w_17.2.2.2.1, w_17.2.2.2.2, K) else (q_let (f_X3_interrupt w_17.2.2.2.1 w_17.2.2.2.2 40 104 w_17.1) fun w_19 => ((w_4.2.1.1, w_4.2.1.2.1, (w_4.2.1.2.2.1 + (1 : Int32)), w_17.1, w_4.2.1.2.2.2.2.1, w_4.2.1.2.2.2.2.2.1, w_4.2.1.2.2.2.2.2.2.1, w_4.2.1.2.2.2.2.2.2.2.1, w_4.2.1.2.2.2.2.2.2.2.2.1, w_4.2.1.2.2.2.2.2.2.2.2.2), w_17.2.1, F, Fd, w_17.2.2.1, Z, Zd, w_19.1, w_19.2, K)))) else (q_let (f_X3_doSs w_4.2.1 F Fd Z Zd w_4.2.2 B K) fun w_20 => (if w_20.1 = 0 then (w_4.2.1, C, w_20.2.1, w_20.2.2.1, G, w_20.2.2.2.1, w_20.2.2.2.2.1, w_20.2.2.2.2.2.1, w_20.2.2.2.2.2.2, K) else (q_let (f_X3_interrupt w_20.2.2.2.2.2.1 w_20.2.2.2.2.2.2 40 104 w_20.1) fun w_22 => ((w_4.2.1.1, w_4.2.1.2.1, (w_4.2.1.2.2.1 + (1 : Int32)), w_20.1, w_4.2.1.2.2.2.2.1, w_4.2.1.2.2.2.2.2.1, w_4.2.1.2.2.2.2.2.2.1, w_4.2.1.2.2.2.2.2.2.2.1, w_4.2.1.2.2.2.2.2.2.2.2.1, w_4.2.1.2.2.2.2.2.2.2.2.2), C, w_20.2.1, w_20.2.2.1, G, w_20.2.2.2.1, w_20.2.2.2.2.1, w_22.1, w_22.2, K))))))) else (if w_4.1 = 0 then (w_4.2.1, C, F, Fd, G, Z, Zd, w_4.2.2, B, K) else (q_let (f_X3_interrupt w_4.2.2 B 40 104 w_4.1) fun w_7 => ((w_4.2.1.1, w_4.2.1.2.1, (w_4.2.1.2.2.1 + (1 : Int32)), w_4.1, w_4.2.1.2.2.2.2.1, w_4.2.1.2.2.2.2.2.1, w_4.2.1.2.2.2.2.2.2.1, w_4.2.1.2.2.2.2.2.2.2.1, w_4.2.1.2.2.2.2.2.2.2.2.1, w_4.2.1.2.2.2.2.2.2.2.2.2), C, F, Fd, G, Z, Zd, w_7.1, w_7.2, K)))))
def finC (code : Int32) (P : tP) (C : tCh) (F : Bool) (Fd G : rw_) (Z : Bool) (Zd : rw_) (T : tT) (B K : rw_) : tS := if code = 0 then (P, C, F, Fd, G, Z, Zd, T, B, K) else (q_let (f_X3_interrupt T B 40 104 code) fun w => ((P.1, P.2.1, (P.2.2.1 + (1 : Int32)), code, P.2.2.2.2.1, P.2.2.2.2.2.1, P.2.2.2.2.2.2.1, P.2.2.2.2.2.2.2.1, P.2.2.2.2.2.2.2.2.1, P.2.2.2.2.2.2.2.2.2), C, F, Fd, G, Z, Zd, w.1, w.2, K))
theorem tail_bad {P : tP} {C : tCh} {F : Bool} {Fd G : rw_} {Z : Bool} {Zd : rw_} {T : tT} {B K : rw_} {c : Int32} {P' : tP} {T' : tT} (hc : ¬ c = 0) (h : f_X3_fetchInstruction P G T B = (c, P', T')) : tailC P C F Fd G Z Zd T B K = finC c P' C F Fd G Z Zd T' B K := by
  unfold tailC finC
  rw [h]
  unfold q_let
  dsimp only
  rw [if_neg hc, if_neg hc]
theorem tail_rr {P : tP} {C : tCh} {F : Bool} {Fd G : rw_} {Z : Bool} {Zd : rw_} {T : tT} {B K : rw_} {c : Int32} {P' : tP} {T' : tT} {G' B' K' : rw_} {T'' : tT} (h : f_X3_fetchInstruction P G T B = (0, P', T')) (h6 : P'.2.2.2.2.1 >>> ((6 : Int32) &&& 31) = 0) (hd : f_X3_doRr P' G T' B K = (c, G', T'', B', K')) : tailC P C F Fd G Z Zd T B K = finC c P' C F Fd G' Z Zd T'' B' K' := by
  unfold tailC finC
  rw [h]
  unfold q_let
  dsimp only
  rw [if_pos rfl, h6, if_pos rfl, hd]
theorem tail_rx {P : tP} {C : tCh} {F : Bool} {Fd G : rw_} {Z : Bool} {Zd : rw_} {T : tT} {B K : rw_} {c : Int32} {P' : tP} {T' : tT} {F' : Bool} {Fd' G' B' : rw_} {T'' : tT} (h : f_X3_fetchInstruction P G T B = (0, P', T')) (h6 : P'.2.2.2.2.1 >>> ((6 : Int32) &&& 31) = 1) (hd : f_X3_doRx P' F Fd G T' B K = (c, F', Fd', G', T'', B')) : tailC P C F Fd G Z Zd T B K = finC c P' C F' Fd' G' Z Zd T'' B' K := by
  unfold tailC finC
  rw [h]
  unfold q_let
  dsimp only
  rw [if_pos rfl, h6, if_neg (show ¬ (1 : Int32) = 0 by decide), if_pos rfl, hd]
theorem tail_rs {P : tP} {C : tCh} {F : Bool} {Fd G : rw_} {Z : Bool} {Zd : rw_} {T : tT} {B K : rw_} {c : Int32} {P' : tP} {T' : tT} {C' : tCh} {G' B' : rw_} {T'' : tT} (h : f_X3_fetchInstruction P G T B = (0, P', T')) (h6 : P'.2.2.2.2.1 >>> ((6 : Int32) &&& 31) = 2) (hd : f_X3_doRsOrSi P' C G T' B K = (c, C', G', T'', B')) : tailC P C F Fd G Z Zd T B K = finC c P' C' F Fd G' Z Zd T'' B' K := by
  unfold tailC finC
  rw [h]
  unfold q_let
  dsimp only
  rw [if_pos rfl, h6, if_neg (show ¬ (2 : Int32) = 0 by decide), if_neg (show ¬ (2 : Int32) = 1 by decide), if_pos rfl, hd]
theorem tail_ss {P : tP} {C : tCh} {F : Bool} {Fd G : rw_} {Z : Bool} {Zd : rw_} {T : tT} {B K : rw_} {c : Int32} {P' : tP} {T' : tT} {F' : Bool} {Fd' : rw_} {Z' : Bool} {Zd' B' : rw_} {T'' : tT} (h : f_X3_fetchInstruction P G T B = (0, P', T')) (h6 : P'.2.2.2.2.1 >>> ((6 : Int32) &&& 31) = 3) (hd : f_X3_doSs P' F Fd Z Zd T' B K = (c, F', Fd', Z', Zd', T'', B')) : tailC P C F Fd G Z Zd T B K = finC c P' C F' Fd' G Z' Zd' T'' B' K := by
  unfold tailC finC
  rw [h]
  unfold q_let
  dsimp only
  rw [if_pos rfl, h6, if_neg (show ¬ (3 : Int32) = 0 by decide), if_neg (show ¬ (3 : Int32) = 1 by decide), if_neg (show ¬ (3 : Int32) = 2 by decide), hd]
theorem fet_bad (x1 : Bool) (x2 x3 x4 y5 y6 y7 y8 y9 y10 : Int32) (G : rw_) (a1 a2 a3 : Int32) (A : Nat) (hA : A < 65536) (B : rw_) (ha1 : rg a1 32) (n ln : Nat) (hn : n = opN B A) (hl : ln = lnN n) (c : Int32) (h : (A % 2 = 1 ∧ c = 6) ∨ (A % 2 = 0 ∧ ¬ A + ln ≤ 2048 ∧ c = 5) ∨ (A % 2 = 0 ∧ A + ln ≤ 2048 ∧ f_X8_kindOf (nI n) = 2 ∧ f_X5_allows (a1, a2, a3, nI ((A + ln) % 65536)) 4 = true ∧ c = 2)) :
    f_X3_fetchInstruction (x1, x2, x3, x4, y5, y6, y7, y8, y9, y10) G (a1, a2, a3, nI A) B = (c, (x1, x2, x3, x4, nI n, y6, y7, y8, y9, y10), (a1, a2, a3, nI ((A + ln) % 65536))) := by
  have hn2 : n < 256 := by rw [hn]; exact opN_lt B A
  have hlb := lnN_b n
  rw [← hl] at hlb
  have e1 : f_X6_byteAt B (nI A) = nI n := by rw [hn]; exact opN_c B A hA
  have e2 : f_X3_lengthOf (nI n) = nI ln := by rw [hl]; exact lnN_eq n hn2
  have e3 : f_X5_goTo (a1, a2, a3, nI A) (nI A + nI ln) = (a1, a2, a3, nI ((A + ln) % 65536)) := by
    unfold f_X5_goTo
    rw [nI_add, pk_andN (by omega) 16 (by decide)]
  have e4 : nI A - nI A / (2 : Int32) * (2 : Int32) = nI (A % 2) := pk_rem (d := 2) (by omega) (by omega) (by omega)
  have z4 : nI (A % 2) = 0 ↔ A % 2 = 0 := nI_eq (b := 0) (by omega) (by omega)
  have e5 : f_X6_holds (nI A) (nI ln) = true ↔ A + ln ≤ 2048 := by
    unfold f_X6_holds
    rw [if_neg (nI_pos (by omega)), show (2048 : Int32) - nI ln = nI (2048 - ln) from pk_sub (a := 2048) (by omega)]
    by_cases c : A + ln ≤ 2048
    · rw [if_neg (nI_nlt (by omega) (by omega))]; exact ⟨fun _ => c, fun _ => rfl⟩
    · rw [if_pos (nI_lt (by omega) (by omega))]; exact ⟨fun q => (by cases q), fun q => absurd q c⟩
  have e6 := priv_iff x1 x2 x3 x4 n hn2 y6 y7 y8 y9 y10
  unfold f_X3_fetchInstruction q_let
  dsimp only
  rw [e1, e2, e3, e4]
  rcases h with ⟨h1, h2⟩ | ⟨h1, h2, h3⟩ | ⟨h1, h2, h3, h4, h5⟩
  · rw [if_neg (fun q => by have := z4.mp q; omega), h2]
  · rw [if_pos (z4.mpr h1), if_neg (fun q => h2 (e5.mp q)), h3]
  · rw [if_pos (z4.mpr h1), if_pos (e5.mpr h2), if_pos (e6.mpr h3), if_pos h4, h5]
theorem fet_ok (x1 : Bool) (x2 x3 x4 y5 y6 y7 y8 y9 y10 : Int32) (G : rw_) (a1 a2 a3 : Int32) (A : Nat) (hA : A < 65536) (B : rw_) (ha1 : rg a1 32) (n ln im : Nat) (hn : n = opN B A) (hl : ln = lnN n) (him : im = nB B (A + 1)) (h1 : A % 2 = 0) (h2 : A + ln ≤ 2048) (h3 : ¬ (f_X8_kindOf (nI n) = 2 ∧ f_X5_allows (a1, a2, a3, nI ((A + ln) % 65536)) 4 = true)) :
    f_X3_fetchInstruction (x1, x2, x3, x4, y5, y6, y7, y8, y9, y10) G (a1, a2, a3, nI A) B = (0, (x1, x2, x3, x4, nI n, nI im, nI (im / 16), nI (im % 16), f_X3_operandAt G B (nI (A + 2)) (if n / 64 = 1 then nI (im % 16) else 0), f_X3_operandAt G B (nI (A + 4)) 0), (a1, a2, a3, nI ((A + ln) % 65536))) := by
  have hn2 : n < 256 := by rw [hn]; exact opN_lt B A
  have hi2 : im < 256 := by rw [him]; exact nB_lt B (A + 1)
  have hlb := lnN_b n
  rw [← hl] at hlb
  have e1 : f_X6_byteAt B (nI A) = nI n := by rw [hn]; exact opN_c B A hA
  have e2 : f_X3_lengthOf (nI n) = nI ln := by rw [hl]; exact lnN_eq n hn2
  have e3 : f_X5_goTo (a1, a2, a3, nI A) (nI A + nI ln) = (a1, a2, a3, nI ((A + ln) % 65536)) := by
    unfold f_X5_goTo
    rw [nI_add, pk_andN (by omega) 16 (by decide)]
  have e4 : nI A - nI A / (2 : Int32) * (2 : Int32) = nI (A % 2) := pk_rem (d := 2) (by omega) (by omega) (by omega)
  have z4 : nI (A % 2) = 0 ↔ A % 2 = 0 := nI_eq (b := 0) (by omega) (by omega)
  have e5 : f_X6_holds (nI A) (nI ln) = true := by
    unfold f_X6_holds
    rw [if_neg (nI_pos (by omega)), show (2048 : Int32) - nI ln = nI (2048 - ln) from pk_sub (a := 2048) (by omega), if_neg (nI_nlt (by omega) (by omega))]
  have e6 := priv_iff x1 x2 x3 x4 n hn2 y6 y7 y8 y9 y10
  have q1 : nI A + (1 : Int32) = nI (A + 1) := nI_1 A
  have q2 : nI A + (2 : Int32) = nI (A + 2) := nI_a A 2 2 (by decide)
  have q4 : nI A + (4 : Int32) = nI (A + 4) := nI_a A 4 4 (by decide)
  have q5 : f_X6_byteAt B (nI (A + 1)) = nI im := by rw [him, byteAt_in B (A + 1) (by omega), uB_nB]
  have q6 : nI im >>> ((4 : Int32) &&& 31) = nI (im / 16) := shr4 (by omega)
  have q7 : nI im &&& (15 : Int32) = nI (im % 16) := pk_andN (by omega) 4 (by decide)
  have q8 : nI n >>> ((6 : Int32) &&& 31) = nI (n / 64) := pk_shrN (by omega) _ 6 (by decide)
  have z8 : nI (n / 64) = 1 ↔ n / 64 = 1 := nI_eq (b := 1) (by omega) (by omega)
  have hde : f_X3_decode (x1, x2, x3, x4, nI n, y6, y7, y8, y9, y10) G B (nI A) = (x1, x2, x3, x4, nI n, nI im, nI (im / 16), nI (im % 16), f_X3_operandAt G B (nI (A + 2)) (if n / 64 = 1 then nI (im % 16) else 0), f_X3_operandAt G B (nI (A + 4)) 0) := by
    unfold f_X3_decode
    dsimp only
    rw [q1, q2, q4, q5, q6, q7, q8]
    by_cases c : n / 64 = 1
    · rw [if_pos (z8.mpr c), if_pos c]
    · rw [if_neg (fun q => c (z8.mp q)), if_neg c]
  unfold f_X3_fetchInstruction q_let
  dsimp only
  rw [e1, e2, e3, e4, if_pos (z4.mpr h1), if_pos e5, hde]
  by_cases c1 : f_X8_kindOf (nI n) = 2
  · rw [if_pos (e6.mpr c1), if_neg (fun q => h3 ⟨c1, q⟩)]
  · rw [if_neg (fun q => c1 (e6.mp q))]
theorem ins_bad (B K one G two : rw_) (a1 a2 a3 : Int32) (A : Nat) (hA : A < 65536) (e w : Bool) (s l : Int32) (R : tR) (n ln im : Nat) (hn : n = opN B A) (hl : ln = lnN n) (him : im = nB B (A + 1)) (c : Int32) (hc : ¬ c ≤ 0) (h : (A % 2 = 1 ∧ c = 6) ∨ (A % 2 = 0 ∧ ¬ A + ln ≤ 2048 ∧ c = 5) ∨ (A % 2 = 0 ∧ A + ln ≤ 2048 ∧ f_X8_kindOf (nI n) = 0 ∧ c = 1) ∨ (A % 2 = 0 ∧ A + ln ≤ 2048 ∧ f_X8_kindOf (nI n) = 2 ∧ a1 / (4 : Int32) - a1 / (4 : Int32) / (2 : Int32) * (2 : Int32) = 1 ∧ c = 2)) :
    f_X8_instruct (a1, a2, a3, nI A, e, w, s, l, 0, 0, R) (uB B) K one G two = ((a1, a2, a3, nI ((A + ln) % 65536), e, w, s, l, c, 0, R), uB B, K, one, G, two) ∧ s_X8_instruct (a1, a2, a3, nI A, e, w, s, l, 0, 0, R) (uB B) K one G two := by
  have hn2 : n < 256 := by rw [hn]; exact opN_lt B A
  have hlb := lnN_b n
  rw [← hl] at hlb
  have e1 : (if (2048 : Int32) ≤ nI A then 0 else uB B (nI A).toNatClampNeg) = nI n := by rw [hn]; exact opN_r B A hA
  have e2 : (if (64 : Int32) ≤ nI n then (if (192 : Int32) ≤ nI n then (6 : Int32) else 4) else 2) = nI ln := by rw [hl]; exact lnN_eq n hn2
  have e3 : nI (A + ln) - nI (A + ln) / (65536 : Int32) * (65536 : Int32) = nI ((A + ln) % 65536) := pk_rem (d := 65536) (by omega) (by omega) (by omega)
  have ea : nI A + nI ln = nI (A + ln) := nI_add A ln
  have e4 : nI A - nI A / (2 : Int32) * (2 : Int32) = nI (A % 2) := pk_rem (d := 2) (by omega) (by omega) (by omega)
  have z4 : nI (A % 2) = 1 ↔ A % 2 = 1 := nI_eq (b := 1) (by omega) (by omega)
  have z5 : nI (A + ln) ≤ (2048 : Int32) ↔ A + ln ≤ 2048 := nI_leI (b := 2048) (by omega) (by omega)
  have vA : if (2048 : Int32) ≤ nI A then True else vp_in (nI A) 2048 := by
    split
    · trivial
    · rename_i c
      exact vp_in_nI (Classical.byContradiction fun q => c (nI_le (a := 2048) (by omega) (by omega))) (by omega)
  have z0 : (0 : Int32) ≤ 0 := by decide
  have hw : ∀ y18 : Bool, f_X8_wrong (f_X8_wrong (f_X8_wrong (f_X8_wrong (a1, a2, a3, nI ((A + ln) % 65536), e, w, s, l, 0, 0, R) (if nI (A % 2) = 1 then true else false) 6) (if nI (A + ln) ≤ (2048 : Int32) then false else true) 5) (if f_X8_kindOf (nI n) = 0 then true else false) 1) (if f_X8_kindOf (nI n) = 2 then (if a1 / (4 : Int32) - a1 / (4 : Int32) / (2 : Int32) * (2 : Int32) = 1 then true else false) else false) 2 = (a1, a2, a3, nI ((A + ln) % 65536), e, w, s, l, c, 0, R) := by
    intro _
    rcases h with ⟨h1, h2⟩ | ⟨h1, h2, h3⟩ | ⟨h1, h2, h3, h4⟩ | ⟨h1, h2, h3, h4, h5⟩
    · subst h2
      have n6 : ¬ (6 : Int32) = 0 := by decide
      rw [if_pos (z4.mpr h1), wr_t, wr_n _ _ _ _ _ _ _ _ _ _ _ _ _ n6, wr_n _ _ _ _ _ _ _ _ _ _ _ _ _ n6, wr_n _ _ _ _ _ _ _ _ _ _ _ _ _ n6]
    · subst h3
      have n5 : ¬ (5 : Int32) = 0 := by decide
      rw [if_neg (fun q => by have := z4.mp q; omega), wr_f, if_neg (fun q => h2 (z5.mp q)), wr_t, wr_n _ _ _ _ _ _ _ _ _ _ _ _ _ n5, wr_n _ _ _ _ _ _ _ _ _ _ _ _ _ n5]
    · subst h4
      have n1 : ¬ (1 : Int32) = 0 := by decide
      rw [if_neg (fun q => by have := z4.mp q; omega), wr_f, if_pos (z5.mpr h2), wr_f, if_pos h3, wr_t, wr_n _ _ _ _ _ _ _ _ _ _ _ _ _ n1]
    · subst h5
      rw [if_neg (fun q => by have := z4.mp q; omega), wr_f, if_pos (z5.mpr h2), wr_f, if_neg (by rw [h3]; decide), wr_f, if_pos h3, if_pos h4, wr_t]
  have hm17 : ∀ (y1 y2 y3 : Bool), (f_X8_wrong (f_X8_wrong (f_X8_wrong (a1, a2, a3, nI ((A + ln) % 65536), e, w, s, l, 0, 0, R) y1 6) y2 5) y3 1).1 = a1 := by
    intro y1 y2 y3
    cases y1 <;> cases y2 <;> cases y3 <;> rfl
  obtain ⟨wk, chd, jmp, dev, okey, chn, cmd, plc, flg, cnt, rdy, tsz, rd, lns, onl⟩ := R
  unfold f_X8_instruct s_X8_instruct q_let
  dsimp only
  rw [e1, e2, ea, e3, e4]
  rw [hm17]
  rw [hw true]
  dsimp only
  rw [if_neg hc, if_neg hc]
  exact ⟨rfl, vA, trivial⟩
theorem ins_rr (B K one G two : rw_) (a1 a2 a3 : Int32) (A : Nat) (hA : A < 65536) (e w : Bool) (s l : Int32) (R : tR) (n ln im : Nat) (hn : n = opN B A) (hl : ln = lnN n) (him : im = nB B (A + 1)) (hg : n < 64) (h1 : A % 2 = 0) (h2 : A + ln ≤ 2048) (h3 : ¬ f_X8_kindOf (nI n) = 0) (h4 : ¬ (f_X8_kindOf (nI n) = 2 ∧ a1 / (4 : Int32) - a1 / (4 : Int32) / (2 : Int32) * (2 : Int32) = 1))  (o' : tO) (b' keys' reg' : rw_) (hd : f_X8_doRegisters (a1, a2, a3, nI ((A + ln) % 65536), e, w, s, l, 0, 0, R) (uB B) K G (nI n) (nI (im / 16)) (nI (im % 16)) = (o', b', keys', reg')) (hs : s_X8_doRegisters (a1, a2, a3, nI ((A + ln) % 65536), e, w, s, l, 0, 0, R) (uB B) G (nI n) (nI (im / 16)) (nI (im % 16))) :
    f_X8_instruct (a1, a2, a3, nI A, e, w, s, l, 0, 0, R) (uB B) K one G two = (o', b', keys', one, reg', two) ∧ s_X8_instruct (a1, a2, a3, nI A, e, w, s, l, 0, 0, R) (uB B) K one G two := by
  have hn2 : n < 256 := by rw [hn]; exact opN_lt B A
  have hlb := lnN_b n
  rw [← hl] at hlb
  have e1 : (if (2048 : Int32) ≤ nI A then 0 else uB B (nI A).toNatClampNeg) = nI n := by rw [hn]; exact opN_r B A hA
  have e2 : (if (64 : Int32) ≤ nI n then (if (192 : Int32) ≤ nI n then (6 : Int32) else 4) else 2) = nI ln := by rw [hl]; exact lnN_eq n hn2
  have e3 : nI (A + ln) - nI (A + ln) / (65536 : Int32) * (65536 : Int32) = nI ((A + ln) % 65536) := pk_rem (d := 65536) (by omega) (by omega) (by omega)
  have ea : nI A + nI ln = nI (A + ln) := nI_add A ln
  have e4 : nI A - nI A / (2 : Int32) * (2 : Int32) = nI (A % 2) := pk_rem (d := 2) (by omega) (by omega) (by omega)
  have z4 : nI (A % 2) = 1 ↔ A % 2 = 1 := nI_eq (b := 1) (by omega) (by omega)
  have z5 : nI (A + ln) ≤ (2048 : Int32) ↔ A + ln ≤ 2048 := nI_leI (b := 2048) (by omega) (by omega)
  have vA : if (2048 : Int32) ≤ nI A then True else vp_in (nI A) 2048 := by
    split
    · trivial
    · rename_i c
      exact vp_in_nI (Classical.byContradiction fun q => c (nI_le (a := 2048) (by omega) (by omega))) (by omega)
  have z0 : (0 : Int32) ≤ 0 := by decide
  have hi2 : im < 256 := by rw [him]; exact nB_lt B (A + 1)
  have hw : f_X8_wrong (f_X8_wrong (f_X8_wrong (f_X8_wrong (a1, a2, a3, nI ((A + ln) % 65536), e, w, s, l, 0, 0, R) (if nI (A % 2) = 1 then true else false) 6) (if nI (A + ln) ≤ (2048 : Int32) then false else true) 5) (if f_X8_kindOf (nI n) = 0 then true else false) 1) (if f_X8_kindOf (nI n) = 2 then (if a1 / (4 : Int32) - a1 / (4 : Int32) / (2 : Int32) * (2 : Int32) = 1 then true else false) else false) 2 = (a1, a2, a3, nI ((A + ln) % 65536), e, w, s, l, 0, 0, R) := by
    rw [if_neg (fun q => by have := z4.mp q; omega), wr_f, if_pos (z5.mpr h2), wr_f, if_neg h3, wr_f]
    by_cases k2 : f_X8_kindOf (nI n) = 2
    · rw [if_pos k2, if_neg (fun q => h4 ⟨k2, q⟩), wr_f]
    · rw [if_neg k2, wr_f]
  have hm17 : ∀ (y1 y2 y3 : Bool), (f_X8_wrong (f_X8_wrong (f_X8_wrong (a1, a2, a3, nI ((A + ln) % 65536), e, w, s, l, 0, 0, R) y1 6) y2 5) y3 1).1 = a1 := by
    intro y1 y2 y3
    cases y1 <;> cases y2 <;> cases y3 <;> rfl
  have q1 : nI A + (1 : Int32) = nI (A + 1) := nI_1 A
  have q2 : nI A + (2 : Int32) = nI (A + 2) := nI_a A 2 2 (by decide)
  have q4 : nI A + (4 : Int32) = nI (A + 4) := nI_a A 4 4 (by decide)
  have q5 : uB B (nI (A + 1)).toNatClampNeg = nI im := by rw [nI_clamp (by omega), uB_nB, him]
  have q6 : nI im / (16 : Int32) = nI (im / 16) := pk_div (d := 16) (by omega) (by omega) (by omega)
  have q7 : nI im - nI (im / 16) * (16 : Int32) = nI (im % 16) := by rw [← q6]; exact pk_rem (d := 16) (by omega) (by omega) (by omega)
  have v1 : vp_in (nI (A + 1)) 2048 := vp_in_nI (by omega) (by omega)
  have c64 : ¬ (64 : Int32) ≤ nI n := nI_ge (b := 64) (by omega) (by omega)
  obtain ⟨wk, chd, jmp, dev, okey, chn, cmd, plc, flg, cnt, rdy, tsz, rd, lns, onl⟩ := R
  unfold f_X8_instruct s_X8_instruct q_let
  dsimp only
  rw [e1, e2, ea, e3, e4]
  rw [hm17]
  rw [hw]
  dsimp only
  rw [if_pos z0, if_pos z0, q1, q2, q4, q5, q6, q7]
  rw [if_neg c64, if_neg c64]
  rw [hd]
  exact ⟨rfl, vA, v1, hs⟩
theorem ins_rx (B K one G two : rw_) (a1 a2 a3 : Int32) (A : Nat) (hA : A < 65536) (e w : Bool) (s l : Int32) (R : tR) (n ln im : Nat) (hn : n = opN B A) (hl : ln = lnN n) (him : im = nB B (A + 1)) (hg : 64 ≤ n ∧ n < 128) (h1 : A % 2 = 0) (h2 : A + ln ≤ 2048) (h3 : ¬ f_X8_kindOf (nI n) = 0) (h4 : ¬ (f_X8_kindOf (nI n) = 2 ∧ a1 / (4 : Int32) - a1 / (4 : Int32) / (2 : Int32) * (2 : Int32) = 1)) (p : Int32) (hp : f_X8_effective (uB B) G (nI (A + 2)) (nI (im % 16)) = p) (sp : s_X8_effective (uB B) (nI (A + 2)) (nI (im % 16))) (o' : tO) (b' one' reg' : rw_) (hd : f_X8_doIndexed (a1, a2, a3, nI ((A + ln) % 65536), e, w, s, l, 0, 0, R) (uB B) K one G (nI n) (nI (im / 16)) p = (o', b', one', reg')) (hs : s_X8_doIndexed (a1, a2, a3, nI ((A + ln) % 65536), e, w, s, l, 0, 0, R) (uB B) K one G (nI n) (nI (im / 16)) p) :
    f_X8_instruct (a1, a2, a3, nI A, e, w, s, l, 0, 0, R) (uB B) K one G two = (o', b', K, one', reg', two) ∧ s_X8_instruct (a1, a2, a3, nI A, e, w, s, l, 0, 0, R) (uB B) K one G two := by
  have hn2 : n < 256 := by rw [hn]; exact opN_lt B A
  have hlb := lnN_b n
  rw [← hl] at hlb
  have e1 : (if (2048 : Int32) ≤ nI A then 0 else uB B (nI A).toNatClampNeg) = nI n := by rw [hn]; exact opN_r B A hA
  have e2 : (if (64 : Int32) ≤ nI n then (if (192 : Int32) ≤ nI n then (6 : Int32) else 4) else 2) = nI ln := by rw [hl]; exact lnN_eq n hn2
  have e3 : nI (A + ln) - nI (A + ln) / (65536 : Int32) * (65536 : Int32) = nI ((A + ln) % 65536) := pk_rem (d := 65536) (by omega) (by omega) (by omega)
  have ea : nI A + nI ln = nI (A + ln) := nI_add A ln
  have e4 : nI A - nI A / (2 : Int32) * (2 : Int32) = nI (A % 2) := pk_rem (d := 2) (by omega) (by omega) (by omega)
  have z4 : nI (A % 2) = 1 ↔ A % 2 = 1 := nI_eq (b := 1) (by omega) (by omega)
  have z5 : nI (A + ln) ≤ (2048 : Int32) ↔ A + ln ≤ 2048 := nI_leI (b := 2048) (by omega) (by omega)
  have vA : if (2048 : Int32) ≤ nI A then True else vp_in (nI A) 2048 := by
    split
    · trivial
    · rename_i c
      exact vp_in_nI (Classical.byContradiction fun q => c (nI_le (a := 2048) (by omega) (by omega))) (by omega)
  have z0 : (0 : Int32) ≤ 0 := by decide
  have hi2 : im < 256 := by rw [him]; exact nB_lt B (A + 1)
  have hw : f_X8_wrong (f_X8_wrong (f_X8_wrong (f_X8_wrong (a1, a2, a3, nI ((A + ln) % 65536), e, w, s, l, 0, 0, R) (if nI (A % 2) = 1 then true else false) 6) (if nI (A + ln) ≤ (2048 : Int32) then false else true) 5) (if f_X8_kindOf (nI n) = 0 then true else false) 1) (if f_X8_kindOf (nI n) = 2 then (if a1 / (4 : Int32) - a1 / (4 : Int32) / (2 : Int32) * (2 : Int32) = 1 then true else false) else false) 2 = (a1, a2, a3, nI ((A + ln) % 65536), e, w, s, l, 0, 0, R) := by
    rw [if_neg (fun q => by have := z4.mp q; omega), wr_f, if_pos (z5.mpr h2), wr_f, if_neg h3, wr_f]
    by_cases k2 : f_X8_kindOf (nI n) = 2
    · rw [if_pos k2, if_neg (fun q => h4 ⟨k2, q⟩), wr_f]
    · rw [if_neg k2, wr_f]
  have hm17 : ∀ (y1 y2 y3 : Bool), (f_X8_wrong (f_X8_wrong (f_X8_wrong (a1, a2, a3, nI ((A + ln) % 65536), e, w, s, l, 0, 0, R) y1 6) y2 5) y3 1).1 = a1 := by
    intro y1 y2 y3
    cases y1 <;> cases y2 <;> cases y3 <;> rfl
  have q1 : nI A + (1 : Int32) = nI (A + 1) := nI_1 A
  have q2 : nI A + (2 : Int32) = nI (A + 2) := nI_a A 2 2 (by decide)
  have q4 : nI A + (4 : Int32) = nI (A + 4) := nI_a A 4 4 (by decide)
  have q5 : uB B (nI (A + 1)).toNatClampNeg = nI im := by rw [nI_clamp (by omega), uB_nB, him]
  have q6 : nI im / (16 : Int32) = nI (im / 16) := pk_div (d := 16) (by omega) (by omega) (by omega)
  have q7 : nI im - nI (im / 16) * (16 : Int32) = nI (im % 16) := by rw [← q6]; exact pk_rem (d := 16) (by omega) (by omega) (by omega)
  have v1 : vp_in (nI (A + 1)) 2048 := vp_in_nI (by omega) (by omega)
  have c64 : (64 : Int32) ≤ nI n := nI_le (a := 64) (by omega) (by omega)
  have c128 : ¬ (128 : Int32) ≤ nI n := nI_ge (b := 128) (by omega) (by omega)
  obtain ⟨wk, chd, jmp, dev, okey, chn, cmd, plc, flg, cnt, rdy, tsz, rd, lns, onl⟩ := R
  unfold f_X8_instruct s_X8_instruct q_let
  dsimp only
  rw [e1, e2, ea, e3, e4]
  rw [hm17]
  rw [hw]
  dsimp only
  rw [if_pos z0, if_pos z0, q1, q2, q4, q5, q6, q7]
  rw [if_pos c64, if_pos c64, if_neg c128, if_neg c128, hp]
  rw [hd]
  exact ⟨rfl, vA, v1, sp, hs⟩
theorem ins_rs (B K one G two : rw_) (a1 a2 a3 : Int32) (A : Nat) (hA : A < 65536) (e w : Bool) (s l : Int32) (R : tR) (n ln im : Nat) (hn : n = opN B A) (hl : ln = lnN n) (him : im = nB B (A + 1)) (hg : 128 ≤ n ∧ n < 192) (h1 : A % 2 = 0) (h2 : A + ln ≤ 2048) (h3 : ¬ f_X8_kindOf (nI n) = 0) (h4 : ¬ (f_X8_kindOf (nI n) = 2 ∧ a1 / (4 : Int32) - a1 / (4 : Int32) / (2 : Int32) * (2 : Int32) = 1)) (p : Int32) (hp : f_X8_effective (uB B) G (nI (A + 2)) 0 = p) (sp : s_X8_effective (uB B) (nI (A + 2)) 0) (o' : tO) (b' reg' : rw_) (hd : f_X8_doStored (a1, a2, a3, nI ((A + ln) % 65536), e, w, s, l, 0, 0, R) (uB B) K G (nI n) (nI im) p = (o', b', reg')) (hs : s_X8_doStored (a1, a2, a3, nI ((A + ln) % 65536), e, w, s, l, 0, 0, R) (uB B) K G (nI n) (nI im) p) :
    f_X8_instruct (a1, a2, a3, nI A, e, w, s, l, 0, 0, R) (uB B) K one G two = (o', b', K, one, reg', two) ∧ s_X8_instruct (a1, a2, a3, nI A, e, w, s, l, 0, 0, R) (uB B) K one G two := by
  have hn2 : n < 256 := by rw [hn]; exact opN_lt B A
  have hlb := lnN_b n
  rw [← hl] at hlb
  have e1 : (if (2048 : Int32) ≤ nI A then 0 else uB B (nI A).toNatClampNeg) = nI n := by rw [hn]; exact opN_r B A hA
  have e2 : (if (64 : Int32) ≤ nI n then (if (192 : Int32) ≤ nI n then (6 : Int32) else 4) else 2) = nI ln := by rw [hl]; exact lnN_eq n hn2
  have e3 : nI (A + ln) - nI (A + ln) / (65536 : Int32) * (65536 : Int32) = nI ((A + ln) % 65536) := pk_rem (d := 65536) (by omega) (by omega) (by omega)
  have ea : nI A + nI ln = nI (A + ln) := nI_add A ln
  have e4 : nI A - nI A / (2 : Int32) * (2 : Int32) = nI (A % 2) := pk_rem (d := 2) (by omega) (by omega) (by omega)
  have z4 : nI (A % 2) = 1 ↔ A % 2 = 1 := nI_eq (b := 1) (by omega) (by omega)
  have z5 : nI (A + ln) ≤ (2048 : Int32) ↔ A + ln ≤ 2048 := nI_leI (b := 2048) (by omega) (by omega)
  have vA : if (2048 : Int32) ≤ nI A then True else vp_in (nI A) 2048 := by
    split
    · trivial
    · rename_i c
      exact vp_in_nI (Classical.byContradiction fun q => c (nI_le (a := 2048) (by omega) (by omega))) (by omega)
  have z0 : (0 : Int32) ≤ 0 := by decide
  have hi2 : im < 256 := by rw [him]; exact nB_lt B (A + 1)
  have hw : f_X8_wrong (f_X8_wrong (f_X8_wrong (f_X8_wrong (a1, a2, a3, nI ((A + ln) % 65536), e, w, s, l, 0, 0, R) (if nI (A % 2) = 1 then true else false) 6) (if nI (A + ln) ≤ (2048 : Int32) then false else true) 5) (if f_X8_kindOf (nI n) = 0 then true else false) 1) (if f_X8_kindOf (nI n) = 2 then (if a1 / (4 : Int32) - a1 / (4 : Int32) / (2 : Int32) * (2 : Int32) = 1 then true else false) else false) 2 = (a1, a2, a3, nI ((A + ln) % 65536), e, w, s, l, 0, 0, R) := by
    rw [if_neg (fun q => by have := z4.mp q; omega), wr_f, if_pos (z5.mpr h2), wr_f, if_neg h3, wr_f]
    by_cases k2 : f_X8_kindOf (nI n) = 2
    · rw [if_pos k2, if_neg (fun q => h4 ⟨k2, q⟩), wr_f]
    · rw [if_neg k2, wr_f]
  have hm17 : ∀ (y1 y2 y3 : Bool), (f_X8_wrong (f_X8_wrong (f_X8_wrong (a1, a2, a3, nI ((A + ln) % 65536), e, w, s, l, 0, 0, R) y1 6) y2 5) y3 1).1 = a1 := by
    intro y1 y2 y3
    cases y1 <;> cases y2 <;> cases y3 <;> rfl
  have q1 : nI A + (1 : Int32) = nI (A + 1) := nI_1 A
  have q2 : nI A + (2 : Int32) = nI (A + 2) := nI_a A 2 2 (by decide)
  have q4 : nI A + (4 : Int32) = nI (A + 4) := nI_a A 4 4 (by decide)
  have q5 : uB B (nI (A + 1)).toNatClampNeg = nI im := by rw [nI_clamp (by omega), uB_nB, him]
  have q6 : nI im / (16 : Int32) = nI (im / 16) := pk_div (d := 16) (by omega) (by omega) (by omega)
  have q7 : nI im - nI (im / 16) * (16 : Int32) = nI (im % 16) := by rw [← q6]; exact pk_rem (d := 16) (by omega) (by omega) (by omega)
  have v1 : vp_in (nI (A + 1)) 2048 := vp_in_nI (by omega) (by omega)
  have c64 : (64 : Int32) ≤ nI n := nI_le (a := 64) (by omega) (by omega)
  have c128 : (128 : Int32) ≤ nI n := nI_le (a := 128) (by omega) (by omega)
  have c192 : ¬ (192 : Int32) ≤ nI n := nI_ge (b := 192) (by omega) (by omega)
  obtain ⟨wk, chd, jmp, dev, okey, chn, cmd, plc, flg, cnt, rdy, tsz, rd, lns, onl⟩ := R
  unfold f_X8_instruct s_X8_instruct q_let
  dsimp only
  rw [e1, e2, ea, e3, e4]
  rw [hm17]
  rw [hw]
  dsimp only
  rw [if_pos z0, if_pos z0, q1, q2, q4, q5, q6, q7]
  rw [if_pos c64, if_pos c64, if_pos c128, if_pos c128, if_neg c192, if_neg c192, hp]
  rw [hd]
  exact ⟨rfl, vA, v1, sp, hs⟩
theorem ins_ss (B K one G two : rw_) (a1 a2 a3 : Int32) (A : Nat) (hA : A < 65536) (e w : Bool) (s l : Int32) (R : tR) (n ln im : Nat) (hn : n = opN B A) (hl : ln = lnN n) (him : im = nB B (A + 1)) (hg : 192 ≤ n) (h1 : A % 2 = 0) (h2 : A + ln ≤ 2048) (h3 : ¬ f_X8_kindOf (nI n) = 0) (h4 : ¬ (f_X8_kindOf (nI n) = 2 ∧ a1 / (4 : Int32) - a1 / (4 : Int32) / (2 : Int32) * (2 : Int32) = 1)) (p : Int32) (hp : f_X8_effective (uB B) G (nI (A + 2)) 0 = p) (sp : s_X8_effective (uB B) (nI (A + 2)) 0) (q : Int32) (hq : f_X8_effective (uB B) G (nI (A + 4)) 0 = q) (sq : s_X8_effective (uB B) (nI (A + 4)) 0) (o' : tO) (b' one' two' : rw_) (hd : f_X8_doStrings (a1, a2, a3, nI ((A + ln) % 65536), e, w, s, l, 0, 0, R) (uB B) K one two (nI n) (nI im) p q = (o', b', one', two')) (hs : s_X8_doStrings (a1, a2, a3, nI ((A + ln) % 65536), e, w, s, l, 0, 0, R) (uB B) K one two (nI n) (nI im) p q) :
    f_X8_instruct (a1, a2, a3, nI A, e, w, s, l, 0, 0, R) (uB B) K one G two = (o', b', K, one', G, two') ∧ s_X8_instruct (a1, a2, a3, nI A, e, w, s, l, 0, 0, R) (uB B) K one G two := by
  have hn2 : n < 256 := by rw [hn]; exact opN_lt B A
  have hlb := lnN_b n
  rw [← hl] at hlb
  have e1 : (if (2048 : Int32) ≤ nI A then 0 else uB B (nI A).toNatClampNeg) = nI n := by rw [hn]; exact opN_r B A hA
  have e2 : (if (64 : Int32) ≤ nI n then (if (192 : Int32) ≤ nI n then (6 : Int32) else 4) else 2) = nI ln := by rw [hl]; exact lnN_eq n hn2
  have e3 : nI (A + ln) - nI (A + ln) / (65536 : Int32) * (65536 : Int32) = nI ((A + ln) % 65536) := pk_rem (d := 65536) (by omega) (by omega) (by omega)
  have ea : nI A + nI ln = nI (A + ln) := nI_add A ln
  have e4 : nI A - nI A / (2 : Int32) * (2 : Int32) = nI (A % 2) := pk_rem (d := 2) (by omega) (by omega) (by omega)
  have z4 : nI (A % 2) = 1 ↔ A % 2 = 1 := nI_eq (b := 1) (by omega) (by omega)
  have z5 : nI (A + ln) ≤ (2048 : Int32) ↔ A + ln ≤ 2048 := nI_leI (b := 2048) (by omega) (by omega)
  have vA : if (2048 : Int32) ≤ nI A then True else vp_in (nI A) 2048 := by
    split
    · trivial
    · rename_i c
      exact vp_in_nI (Classical.byContradiction fun q => c (nI_le (a := 2048) (by omega) (by omega))) (by omega)
  have z0 : (0 : Int32) ≤ 0 := by decide
  have hi2 : im < 256 := by rw [him]; exact nB_lt B (A + 1)
  have hw : f_X8_wrong (f_X8_wrong (f_X8_wrong (f_X8_wrong (a1, a2, a3, nI ((A + ln) % 65536), e, w, s, l, 0, 0, R) (if nI (A % 2) = 1 then true else false) 6) (if nI (A + ln) ≤ (2048 : Int32) then false else true) 5) (if f_X8_kindOf (nI n) = 0 then true else false) 1) (if f_X8_kindOf (nI n) = 2 then (if a1 / (4 : Int32) - a1 / (4 : Int32) / (2 : Int32) * (2 : Int32) = 1 then true else false) else false) 2 = (a1, a2, a3, nI ((A + ln) % 65536), e, w, s, l, 0, 0, R) := by
    rw [if_neg (fun q => by have := z4.mp q; omega), wr_f, if_pos (z5.mpr h2), wr_f, if_neg h3, wr_f]
    by_cases k2 : f_X8_kindOf (nI n) = 2
    · rw [if_pos k2, if_neg (fun q => h4 ⟨k2, q⟩), wr_f]
    · rw [if_neg k2, wr_f]
  have hm17 : ∀ (y1 y2 y3 : Bool), (f_X8_wrong (f_X8_wrong (f_X8_wrong (a1, a2, a3, nI ((A + ln) % 65536), e, w, s, l, 0, 0, R) y1 6) y2 5) y3 1).1 = a1 := by
    intro y1 y2 y3
    cases y1 <;> cases y2 <;> cases y3 <;> rfl
  have q1 : nI A + (1 : Int32) = nI (A + 1) := nI_1 A
  have q2 : nI A + (2 : Int32) = nI (A + 2) := nI_a A 2 2 (by decide)
  have q4 : nI A + (4 : Int32) = nI (A + 4) := nI_a A 4 4 (by decide)
  have q5 : uB B (nI (A + 1)).toNatClampNeg = nI im := by rw [nI_clamp (by omega), uB_nB, him]
  have q6 : nI im / (16 : Int32) = nI (im / 16) := pk_div (d := 16) (by omega) (by omega) (by omega)
  have q7 : nI im - nI (im / 16) * (16 : Int32) = nI (im % 16) := by rw [← q6]; exact pk_rem (d := 16) (by omega) (by omega) (by omega)
  have v1 : vp_in (nI (A + 1)) 2048 := vp_in_nI (by omega) (by omega)
  have c64 : (64 : Int32) ≤ nI n := nI_le (a := 64) (by omega) (by omega)
  have c128 : (128 : Int32) ≤ nI n := nI_le (a := 128) (by omega) (by omega)
  have c192 : (192 : Int32) ≤ nI n := nI_le (a := 192) (by omega) (by omega)
  obtain ⟨wk, chd, jmp, dev, okey, chn, cmd, plc, flg, cnt, rdy, tsz, rd, lns, onl⟩ := R
  unfold f_X8_instruct s_X8_instruct q_let
  dsimp only
  rw [e1, e2, ea, e3, e4]
  rw [hm17]
  rw [hw]
  dsimp only
  rw [if_pos z0, if_pos z0, q1, q2, q4, q5, q6, q7]
  rw [if_pos c64, if_pos c64, if_pos c128, if_pos c128, if_pos c192, if_pos c192, hp, hq]
  rw [hd]
  exact ⟨rfl, vA, v1, sp, sq, hs⟩
