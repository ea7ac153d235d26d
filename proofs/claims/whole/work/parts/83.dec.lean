/-! packed arithmetic: the ways through the reference -/
theorem dec_f1 (b K one two : rw_) (op p2 p3 p4 p5 : Int32) (st : Bool) (hst : (if op = 249 then false else true) = st) (a1 a2 a3 a4 : Int32) (e w : Bool) (s l : Int32) (R : tR) (x : Int32) (g2 : f_X8_good (a1, a2, a3, a4, e, w, s, l, 0, 0, R) K p2 p3 1 st = (false, (a1, a2, a3, a4, e, w, s, l, x, 0, R))) :
    f_X8_decimal (a1, a2, a3, a4, e, w, s, l, 0, 0, R) b K one two op p2 p3 p4 p5 = ((a1, a2, a3, a4, e, w, s, l, x, 0, R), b, one, two) ∧ (s_X8_good (a1, a2, a3, a4, e, w, s, l, 0, 0, R) K p2 p3 1 st → s_X8_decimal (a1, a2, a3, a4, e, w, s, l, 0, 0, R) b K one two op p2 p3 p4 p5) := by
  have z0 : (0 : Int32) ≤ 0 := by decide
  have z7 : ¬ (7 : Int32) ≤ 0 := by decide
  have n7 : ¬ (7 : Int32) = 0 := by decide
  have nf : ¬ false = true := by decide
  refine ⟨?_, fun hS => ?_⟩
  · unfold f_X8_decimal
    rw [hst]
    unfold q_let
    dsimp only
    rw [g2]
    dsimp only
    rw [if_neg nf]
  · unfold s_X8_decimal
    rw [hst]
    unfold q_let
    dsimp only
    rw [g2]
    dsimp only
    rw [if_neg nf]
    exact ⟨hS, trivial⟩
theorem dec_f2 (b K one two : rw_) (op p2 p3 p4 p5 : Int32) (st : Bool) (hst : (if op = 249 then false else true) = st) (a1 a2 a3 a4 : Int32) (e w : Bool) (s l : Int32) (R : tR) (x : Int32) (g2 : f_X8_good (a1, a2, a3, a4, e, w, s, l, 0, 0, R) K p2 p3 1 st = (true, (a1, a2, a3, a4, e, w, s, l, 0, 0, R))) (k2 : f_X8_good (a1, a2, a3, a4, e, w, s, l, 0, 0, R) K p4 p5 1 false = (false, (a1, a2, a3, a4, e, w, s, l, x, 0, R))) :
    f_X8_decimal (a1, a2, a3, a4, e, w, s, l, 0, 0, R) b K one two op p2 p3 p4 p5 = ((a1, a2, a3, a4, e, w, s, l, x, 0, R), b, one, two) ∧ (s_X8_good (a1, a2, a3, a4, e, w, s, l, 0, 0, R) K p2 p3 1 st ∧ s_X8_good (a1, a2, a3, a4, e, w, s, l, 0, 0, R) K p4 p5 1 false → s_X8_decimal (a1, a2, a3, a4, e, w, s, l, 0, 0, R) b K one two op p2 p3 p4 p5) := by
  have z0 : (0 : Int32) ≤ 0 := by decide
  have z7 : ¬ (7 : Int32) ≤ 0 := by decide
  have n7 : ¬ (7 : Int32) = 0 := by decide
  have nf : ¬ false = true := by decide
  refine ⟨?_, fun hS => ?_⟩
  · unfold f_X8_decimal
    rw [hst]
    unfold q_let
    dsimp only
    rw [g2]
    dsimp only
    rw [if_pos rfl, k2]
    dsimp only
    rw [if_neg nf]
  · unfold s_X8_decimal
    rw [hst]
    unfold q_let
    dsimp only
    rw [g2]
    dsimp only
    rw [if_pos rfl, k2]
    dsimp only
    rw [if_neg nf]
    exact ⟨hS.1, hS.2, trivial⟩
theorem dec_go (b K one two : rw_) (op p2 p3 p4 p5 : Int32) (st : Bool) (hst : (if op = 249 then false else true) = st) (a1 a2 a3 a4 : Int32) (e w : Bool) (s l : Int32) (R : tR) (h248 : ¬ op = 248) (g2 : f_X8_good (a1, a2, a3, a4, e, w, s, l, 0, 0, R) K p2 p3 1 st = (true, (a1, a2, a3, a4, e, w, s, l, 0, 0, R))) (k2 : f_X8_good (a1, a2, a3, a4, e, w, s, l, 0, 0, R) K p4 p5 1 false = (true, (a1, a2, a3, a4, e, w, s, l, 0, 0, R))) (two' : rw_) (t2 : f_X8_unpackB b two p4 p5 = (true, two')) (one' : rw_) (u2 : f_X8_unpackA b one p2 p3 = (true, one')) :
    f_X8_decimal (a1, a2, a3, a4, e, w, s, l, 0, 0, R) b K one two op p2 p3 p4 p5 = f_X8_decimal_L112 b op p2 p3 (((40 : Int32).toInt - (0 : Int32).toInt).toNat + 1) (a1, a2, a3, a4, e, w, s, l, 0, 0, R) one' two' 0 ∧ (s_X8_good (a1, a2, a3, a4, e, w, s, l, 0, 0, R) K p2 p3 1 st ∧ s_X8_good (a1, a2, a3, a4, e, w, s, l, 0, 0, R) K p4 p5 1 false ∧ s_X8_unpackB b two p4 p5 ∧ s_X8_unpackA b one p2 p3 ∧ s_X8_decimal_L112 b op p2 p3 (((40 : Int32).toInt - (0 : Int32).toInt).toNat + 1) (a1, a2, a3, a4, e, w, s, l, 0, 0, R) one' two' 0 → s_X8_decimal (a1, a2, a3, a4, e, w, s, l, 0, 0, R) b K one two op p2 p3 p4 p5) := by
  have z0 : (0 : Int32) ≤ 0 := by decide
  have z7 : ¬ (7 : Int32) ≤ 0 := by decide
  have n7 : ¬ (7 : Int32) = 0 := by decide
  have nf : ¬ false = true := by decide
  refine ⟨?_, fun hS => ?_⟩
  · unfold f_X8_decimal
    rw [hst]
    unfold q_let
    dsimp only
    rw [g2]
    dsimp only
    rw [if_pos rfl, k2]
    dsimp only
    rw [if_pos rfl, t2]
    dsimp only
    rw [if_pos rfl, wr_f, if_neg h248, u2]
    dsimp only
    rw [if_pos rfl, wr_f]
    dsimp only
    rw [if_pos z0]
  · unfold s_X8_decimal
    rw [hst]
    unfold q_let
    dsimp only
    rw [g2]
    dsimp only
    rw [if_pos rfl, k2]
    dsimp only
    rw [if_pos rfl, t2]
    dsimp only
    rw [if_pos rfl, wr_f, if_neg h248, u2]
    dsimp only
    rw [if_pos rfl, wr_f]
    dsimp only
    rw [if_pos z0]
    exact ⟨hS.1, hS.2.1, hS.2.2.1, hS.2.2.2.1, hS.2.2.2.2⟩
theorem dec_bt (b K one two : rw_) (op p2 p3 p4 p5 : Int32) (st : Bool) (hst : (if op = 249 then false else true) = st) (a1 a2 a3 a4 : Int32) (e w : Bool) (s l : Int32) (R : tR) (h248 : ¬ op = 248) (g2 : f_X8_good (a1, a2, a3, a4, e, w, s, l, 0, 0, R) K p2 p3 1 st = (true, (a1, a2, a3, a4, e, w, s, l, 0, 0, R))) (k2 : f_X8_good (a1, a2, a3, a4, e, w, s, l, 0, 0, R) K p4 p5 1 false = (true, (a1, a2, a3, a4, e, w, s, l, 0, 0, R))) (two' : rw_) (t2 : f_X8_unpackB b two p4 p5 = (false, two')) (one' : rw_) (u2 : f_X8_unpackA b one p2 p3 = (true, one')) :
    f_X8_decimal (a1, a2, a3, a4, e, w, s, l, 0, 0, R) b K one two op p2 p3 p4 p5 = ((a1, a2, a3, a4, e, w, s, l, 7, 0, R), b, one', two') ∧ (s_X8_good (a1, a2, a3, a4, e, w, s, l, 0, 0, R) K p2 p3 1 st ∧ s_X8_good (a1, a2, a3, a4, e, w, s, l, 0, 0, R) K p4 p5 1 false ∧ s_X8_unpackB b two p4 p5 ∧ s_X8_unpackA b one p2 p3 → s_X8_decimal (a1, a2, a3, a4, e, w, s, l, 0, 0, R) b K one two op p2 p3 p4 p5) := by
  have z0 : (0 : Int32) ≤ 0 := by decide
  have z7 : ¬ (7 : Int32) ≤ 0 := by decide
  have n7 : ¬ (7 : Int32) = 0 := by decide
  have nf : ¬ false = true := by decide
  refine ⟨?_, fun hS => ?_⟩
  · unfold f_X8_decimal
    rw [hst]
    unfold q_let
    dsimp only
    rw [g2]
    dsimp only
    rw [if_pos rfl, k2]
    dsimp only
    rw [if_pos rfl, t2]
    dsimp only
    rw [if_neg nf, wr_t, if_neg h248, u2]
    dsimp only
    rw [if_pos rfl, wr_n _ _ _ _ _ _ _ _ _ _ _ _ _ n7]
    dsimp only
    rw [if_neg z7]
  · unfold s_X8_decimal
    rw [hst]
    unfold q_let
    dsimp only
    rw [g2]
    dsimp only
    rw [if_pos rfl, k2]
    dsimp only
    rw [if_pos rfl, t2]
    dsimp only
    rw [if_neg nf, wr_t, if_neg h248, u2]
    dsimp only
    rw [if_pos rfl, wr_n _ _ _ _ _ _ _ _ _ _ _ _ _ n7]
    dsimp only
    rw [if_neg z7]
    exact ⟨hS.1, hS.2.1, hS.2.2.1, hS.2.2.2, trivial⟩
theorem dec_bf (b K one two : rw_) (op p2 p3 p4 p5 : Int32) (st : Bool) (hst : (if op = 249 then false else true) = st) (a1 a2 a3 a4 : Int32) (e w : Bool) (s l : Int32) (R : tR) (h248 : ¬ op = 248) (g2 : f_X8_good (a1, a2, a3, a4, e, w, s, l, 0, 0, R) K p2 p3 1 st = (true, (a1, a2, a3, a4, e, w, s, l, 0, 0, R))) (k2 : f_X8_good (a1, a2, a3, a4, e, w, s, l, 0, 0, R) K p4 p5 1 false = (true, (a1, a2, a3, a4, e, w, s, l, 0, 0, R))) (two' : rw_) (t2 : f_X8_unpackB b two p4 p5 = (false, two')) (one' : rw_) (u2 : f_X8_unpackA b one p2 p3 = (false, one')) :
    f_X8_decimal (a1, a2, a3, a4, e, w, s, l, 0, 0, R) b K one two op p2 p3 p4 p5 = ((a1, a2, a3, a4, e, w, s, l, 7, 0, R), b, one', two') ∧ (s_X8_good (a1, a2, a3, a4, e, w, s, l, 0, 0, R) K p2 p3 1 st ∧ s_X8_good (a1, a2, a3, a4, e, w, s, l, 0, 0, R) K p4 p5 1 false ∧ s_X8_unpackB b two p4 p5 ∧ s_X8_unpackA b one p2 p3 → s_X8_decimal (a1, a2, a3, a4, e, w, s, l, 0, 0, R) b K one two op p2 p3 p4 p5) := by
  have z0 : (0 : Int32) ≤ 0 := by decide
  have z7 : ¬ (7 : Int32) ≤ 0 := by decide
  have n7 : ¬ (7 : Int32) = 0 := by decide
  have nf : ¬ false = true := by decide
  refine ⟨?_, fun hS => ?_⟩
  · unfold f_X8_decimal
    rw [hst]
    unfold q_let
    dsimp only
    rw [g2]
    dsimp only
    rw [if_pos rfl, k2]
    dsimp only
    rw [if_pos rfl, t2]
    dsimp only
    rw [if_neg nf, wr_t, if_neg h248, u2]
    dsimp only
    rw [if_neg nf, wr_n _ _ _ _ _ _ _ _ _ _ _ _ _ n7]
    dsimp only
    rw [if_neg z7]
  · unfold s_X8_decimal
    rw [hst]
    unfold q_let
    dsimp only
    rw [g2]
    dsimp only
    rw [if_pos rfl, k2]
    dsimp only
    rw [if_pos rfl, t2]
    dsimp only
    rw [if_neg nf, wr_t, if_neg h248, u2]
    dsimp only
    rw [if_neg nf, wr_n _ _ _ _ _ _ _ _ _ _ _ _ _ n7]
    dsimp only
    rw [if_neg z7]
    exact ⟨hS.1, hS.2.1, hS.2.2.1, hS.2.2.2, trivial⟩
theorem dec_a (b K one two : rw_) (op p2 p3 p4 p5 : Int32) (st : Bool) (hst : (if op = 249 then false else true) = st) (a1 a2 a3 a4 : Int32) (e w : Bool) (s l : Int32) (R : tR) (h248 : ¬ op = 248) (g2 : f_X8_good (a1, a2, a3, a4, e, w, s, l, 0, 0, R) K p2 p3 1 st = (true, (a1, a2, a3, a4, e, w, s, l, 0, 0, R))) (k2 : f_X8_good (a1, a2, a3, a4, e, w, s, l, 0, 0, R) K p4 p5 1 false = (true, (a1, a2, a3, a4, e, w, s, l, 0, 0, R))) (two' : rw_) (t2 : f_X8_unpackB b two p4 p5 = (true, two')) (one' : rw_) (u2 : f_X8_unpackA b one p2 p3 = (false, one')) :
    f_X8_decimal (a1, a2, a3, a4, e, w, s, l, 0, 0, R) b K one two op p2 p3 p4 p5 = ((a1, a2, a3, a4, e, w, s, l, 7, 0, R), b, one', two') ∧ (s_X8_good (a1, a2, a3, a4, e, w, s, l, 0, 0, R) K p2 p3 1 st ∧ s_X8_good (a1, a2, a3, a4, e, w, s, l, 0, 0, R) K p4 p5 1 false ∧ s_X8_unpackB b two p4 p5 ∧ s_X8_unpackA b one p2 p3 → s_X8_decimal (a1, a2, a3, a4, e, w, s, l, 0, 0, R) b K one two op p2 p3 p4 p5) := by
  have z0 : (0 : Int32) ≤ 0 := by decide
  have z7 : ¬ (7 : Int32) ≤ 0 := by decide
  have n7 : ¬ (7 : Int32) = 0 := by decide
  have nf : ¬ false = true := by decide
  refine ⟨?_, fun hS => ?_⟩
  · unfold f_X8_decimal
    rw [hst]
    unfold q_let
    dsimp only
    rw [g2]
    dsimp only
    rw [if_pos rfl, k2]
    dsimp only
    rw [if_pos rfl, t2]
    dsimp only
    rw [if_pos rfl, wr_f, if_neg h248, u2]
    dsimp only
    rw [if_neg nf, wr_t]
    dsimp only
    rw [if_neg z7]
  · unfold s_X8_decimal
    rw [hst]
    unfold q_let
    dsimp only
    rw [g2]
    dsimp only
    rw [if_pos rfl, k2]
    dsimp only
    rw [if_pos rfl, t2]
    dsimp only
    rw [if_pos rfl, wr_f, if_neg h248, u2]
    dsimp only
    rw [if_neg nf, wr_t]
    dsimp only
    rw [if_neg z7]
    exact ⟨hS.1, hS.2.1, hS.2.2.1, hS.2.2.2, trivial⟩
theorem dec_go8 (b K one two : rw_) (op p2 p3 p4 p5 : Int32) (st : Bool) (hst : (if op = 249 then false else true) = st) (a1 a2 a3 a4 : Int32) (e w : Bool) (s l : Int32) (R : tR) (h248 : op = 248) (g2 : f_X8_good (a1, a2, a3, a4, e, w, s, l, 0, 0, R) K p2 p3 1 st = (true, (a1, a2, a3, a4, e, w, s, l, 0, 0, R))) (k2 : f_X8_good (a1, a2, a3, a4, e, w, s, l, 0, 0, R) K p4 p5 1 false = (true, (a1, a2, a3, a4, e, w, s, l, 0, 0, R))) (two' : rw_) (t2 : f_X8_unpackB b two p4 p5 = (true, two')) :
    f_X8_decimal (a1, a2, a3, a4, e, w, s, l, 0, 0, R) b K one two op p2 p3 p4 p5 = f_X8_decimal_L112b b op p2 p3 (((40 : Int32).toInt - (0 : Int32).toInt).toNat + 1) (a1, a2, a3, a4, e, w, s, l, 0, 0, R) (f_X8_spread one 0) two' 0 ∧ (s_X8_good (a1, a2, a3, a4, e, w, s, l, 0, 0, R) K p2 p3 1 st ∧ s_X8_good (a1, a2, a3, a4, e, w, s, l, 0, 0, R) K p4 p5 1 false ∧ s_X8_unpackB b two p4 p5 ∧ s_X8_decimal_L112b b op p2 p3 (((40 : Int32).toInt - (0 : Int32).toInt).toNat + 1) (a1, a2, a3, a4, e, w, s, l, 0, 0, R) (f_X8_spread one 0) two' 0 → s_X8_decimal (a1, a2, a3, a4, e, w, s, l, 0, 0, R) b K one two op p2 p3 p4 p5) := by
  have z0 : (0 : Int32) ≤ 0 := by decide
  have z7 : ¬ (7 : Int32) ≤ 0 := by decide
  have n7 : ¬ (7 : Int32) = 0 := by decide
  have nf : ¬ false = true := by decide
  refine ⟨?_, fun hS => ?_⟩
  · unfold f_X8_decimal
    rw [hst]
    unfold q_let
    dsimp only
    rw [g2]
    dsimp only
    rw [if_pos rfl, k2]
    dsimp only
    rw [if_pos rfl, t2]
    dsimp only
    rw [if_pos rfl, wr_f, if_pos h248]
    dsimp only
    rw [if_pos z0]
  · unfold s_X8_decimal
    rw [hst]
    unfold q_let
    dsimp only
    rw [g2]
    dsimp only
    rw [if_pos rfl, k2]
    dsimp only
    rw [if_pos rfl, t2]
    dsimp only
    rw [if_pos rfl, wr_f, if_pos h248]
    dsimp only
    rw [if_pos z0]
    exact ⟨hS.1, hS.2.1, hS.2.2.1, hS.2.2.2⟩
theorem dec_b8 (b K one two : rw_) (op p2 p3 p4 p5 : Int32) (st : Bool) (hst : (if op = 249 then false else true) = st) (a1 a2 a3 a4 : Int32) (e w : Bool) (s l : Int32) (R : tR) (h248 : op = 248) (g2 : f_X8_good (a1, a2, a3, a4, e, w, s, l, 0, 0, R) K p2 p3 1 st = (true, (a1, a2, a3, a4, e, w, s, l, 0, 0, R))) (k2 : f_X8_good (a1, a2, a3, a4, e, w, s, l, 0, 0, R) K p4 p5 1 false = (true, (a1, a2, a3, a4, e, w, s, l, 0, 0, R))) (two' : rw_) (t2 : f_X8_unpackB b two p4 p5 = (false, two')) :
    f_X8_decimal (a1, a2, a3, a4, e, w, s, l, 0, 0, R) b K one two op p2 p3 p4 p5 = ((a1, a2, a3, a4, e, w, s, l, 7, 0, R), b, f_X8_spread one 0, two') ∧ (s_X8_good (a1, a2, a3, a4, e, w, s, l, 0, 0, R) K p2 p3 1 st ∧ s_X8_good (a1, a2, a3, a4, e, w, s, l, 0, 0, R) K p4 p5 1 false ∧ s_X8_unpackB b two p4 p5 → s_X8_decimal (a1, a2, a3, a4, e, w, s, l, 0, 0, R) b K one two op p2 p3 p4 p5) := by
  have z0 : (0 : Int32) ≤ 0 := by decide
  have z7 : ¬ (7 : Int32) ≤ 0 := by decide
  have n7 : ¬ (7 : Int32) = 0 := by decide
  have nf : ¬ false = true := by decide
  refine ⟨?_, fun hS => ?_⟩
  · unfold f_X8_decimal
    rw [hst]
    unfold q_let
    dsimp only
    rw [g2]
    dsimp only
    rw [if_pos rfl, k2]
    dsimp only
    rw [if_pos rfl, t2]
    dsimp only
    rw [if_neg nf, wr_t, if_pos h248]
    dsimp only
    rw [if_neg z7]
  · unfold s_X8_decimal
    rw [hst]
    unfold q_let
    dsimp only
    rw [g2]
    dsimp only
    rw [if_pos rfl, k2]
    dsimp only
    rw [if_pos rfl, t2]
    dsimp only
    rw [if_neg nf, wr_t, if_pos h248]
    dsimp only
    rw [if_neg z7]
    exact ⟨hS.1, hS.2.1, hS.2.2, trivial⟩
