
def f_X8_decimal_L194 (r_this_bytes : Nat → Int32) (p2 : Int32) (p3 : Int32) (r_this_two_L112 : Nat → Int32) : Nat → (Int32 × Int32 × Int32 × Int32 × Bool × Bool × Int32 × Int32 × Int32 × Int32 × Bool × Bool × Bool × Int32 × Int32 × Int32 × Int32 × Int32 × Int32 × Int32 × Int32 × Int32 × Int32 × Int32 × Int32) → (Nat → Int32) → Int32 → Bool → (Int32 × Int32 × Int32 × Int32 × Bool × Bool × Int32 × Int32 × Int32 × Int32 × Bool × Bool × Bool × Int32 × Int32 × Int32 × Int32 × Int32 × Int32 × Int32 × Int32 × Int32 × Int32 × Int32 × Int32) × (Nat → Int32) × (Nat → Int32) × (Nat → Int32)
  | 0, o_this_L194, r_this_one_L194, x7_194, x6_194 => (o_this_L194, r_this_bytes, r_this_one_L194, r_this_two_L112)
  | fuel + 1, o_this_L194, r_this_one_L194, x7_194, x6_194 => (if (40 : Int32) ≤ x7_194 then (q_let (f_X8_store r_this_bytes r_this_one_L194 p2 p3) fun w_30 => (if x6_194 = true then (if ((o_this_L194.1 / (16 : Int32)) - (o_this_L194.1 / (16 : Int32)) / (2 : Int32) * (2 : Int32)) = (1 : Int32) then ((o_this_L194.1, o_this_L194.2.1, 3, o_this_L194.2.2.2.1, o_this_L194.2.2.2.2.1, o_this_L194.2.2.2.2.2.1, o_this_L194.2.2.2.2.2.2.1, o_this_L194.2.2.2.2.2.2.2.1, o_this_L194.2.2.2.2.2.2.2.2.1, 10, o_this_L194.2.2.2.2.2.2.2.2.2.2.1, o_this_L194.2.2.2.2.2.2.2.2.2.2.2.1, o_this_L194.2.2.2.2.2.2.2.2.2.2.2.2.1, o_this_L194.2.2.2.2.2.2.2.2.2.2.2.2.2.1, o_this_L194.2.2.2.2.2.2.2.2.2.2.2.2.2.2.1, o_this_L194.2.2.2.2.2.2.2.2.2.2.2.2.2.2.2.1, o_this_L194.2.2.2.2.2.2.2.2.2.2.2.2.2.2.2.2.1, o_this_L194.2.2.2.2.2.2.2.2.2.2.2.2.2.2.2.2.2.1, o_this_L194.2.2.2.2.2.2.2.2.2.2.2.2.2.2.2.2.2.2.1, o_this_L194.2.2.2.2.2.2.2.2.2.2.2.2.2.2.2.2.2.2.2.1, o_this_L194.2.2.2.2.2.2.2.2.2.2.2.2.2.2.2.2.2.2.2.2.1, o_this_L194.2.2.2.2.2.2.2.2.2.2.2.2.2.2.2.2.2.2.2.2.2.1, o_this_L194.2.2.2.2.2.2.2.2.2.2.2.2.2.2.2.2.2.2.2.2.2.2.1, o_this_L194.2.2.2.2.2.2.2.2.2.2.2.2.2.2.2.2.2.2.2.2.2.2.2.1, o_this_L194.2.2.2.2.2.2.2.2.2.2.2.2.2.2.2.2.2.2.2.2.2.2.2.2), w_30, r_this_one_L194, r_this_two_L112) else ((o_this_L194.1, o_this_L194.2.1, 3, o_this_L194.2.2.2.1, o_this_L194.2.2.2.2.1, o_this_L194.2.2.2.2.2.1, o_this_L194.2.2.2.2.2.2.1, o_this_L194.2.2.2.2.2.2.2.1, o_this_L194.2.2.2.2.2.2.2.2.1, 0, o_this_L194.2.2.2.2.2.2.2.2.2.2.1, o_this_L194.2.2.2.2.2.2.2.2.2.2.2.1, o_this_L194.2.2.2.2.2.2.2.2.2.2.2.2.1, o_this_L194.2.2.2.2.2.2.2.2.2.2.2.2.2.1, o_this_L194.2.2.2.2.2.2.2.2.2.2.2.2.2.2.1, o_this_L194.2.2.2.2.2.2.2.2.2.2.2.2.2.2.2.1, o_this_L194.2.2.2.2.2.2.2.2.2.2.2.2.2.2.2.2.1, o_this_L194.2.2.2.2.2.2.2.2.2.2.2.2.2.2.2.2.2.1, o_this_L194.2.2.2.2.2.2.2.2.2.2.2.2.2.2.2.2.2.2.1, o_this_L194.2.2.2.2.2.2.2.2.2.2.2.2.2.2.2.2.2.2.2.1, o_this_L194.2.2.2.2.2.2.2.2.2.2.2.2.2.2.2.2.2.2.2.2.1, o_this_L194.2.2.2.2.2.2.2.2.2.2.2.2.2.2.2.2.2.2.2.2.2.1, o_this_L194.2.2.2.2.2.2.2.2.2.2.2.2.2.2.2.2.2.2.2.2.2.2.1, o_this_L194.2.2.2.2.2.2.2.2.2.2.2.2.2.2.2.2.2.2.2.2.2.2.2.1, o_this_L194.2.2.2.2.2.2.2.2.2.2.2.2.2.2.2.2.2.2.2.2.2.2.2.2), w_30, r_this_one_L194, r_this_two_L112)) else (o_this_L194, w_30, r_this_one_L194, r_this_two_L112))) else (if x6_194 = true then f_X8_decimal_L194 r_this_bytes p2 p3 r_this_two_L112 fuel o_this_L194 r_this_one_L194 (x7_194 + (1 : Int32)) true else (if (r_this_one_L194 x7_194.toNatClampNeg) = 0 then f_X8_decimal_L194 r_this_bytes p2 p3 r_this_two_L112 fuel o_this_L194 r_this_one_L194 (x7_194 + (1 : Int32)) false else f_X8_decimal_L194 r_this_bytes p2 p3 r_this_two_L112 fuel o_this_L194 r_this_one_L194 (x7_194 + (1 : Int32)) true)))
def s_X8_decimal_L194 (r_this_bytes : Nat → Int32) (p2 : Int32) (p3 : Int32) : Nat → (Int32 × Int32 × Int32 × Int32 × Bool × Bool × Int32 × Int32 × Int32 × Int32 × Bool × Bool × Bool × Int32 × Int32 × Int32 × Int32 × Int32 × Int32 × Int32 × Int32 × Int32 × Int32 × Int32 × Int32) → (Nat → Int32) → Int32 → Bool → Prop
  | 0, _, _, _, _ => True
  | fuel + 1, o_this_L194, r_this_one_L194, x7_194, x6_194 => (if (40 : Int32) ≤ x7_194 then s_X8_store r_this_bytes r_this_one_L194 p2 p3 else (if x6_194 = true then s_X8_decimal_L194 r_this_bytes p2 p3 fuel o_this_L194 r_this_one_L194 (x7_194 + (1 : Int32)) true else (vp_in x7_194 40 ∧ (if (r_this_one_L194 x7_194.toNatClampNeg) = 0 then s_X8_decimal_L194 r_this_bytes p2 p3 fuel o_this_L194 r_this_one_L194 (x7_194 + (1 : Int32)) false else s_X8_decimal_L194 r_this_bytes p2 p3 fuel o_this_L194 r_this_one_L194 (x7_194 + (1 : Int32)) true))))
def f_X8_decimal_L112 (r_this_bytes : Nat → Int32) (p1 : Int32) (p2 : Int32) (p3 : Int32) : Nat → (Int32 × Int32 × Int32 × Int32 × Bool × Bool × Int32 × Int32 × Int32 × Int32 × Bool × Bool × Bool × Int32 × Int32 × Int32 × Int32 × Int32 × Int32 × Int32 × Int32 × Int32 × Int32 × Int32 × Int32) → (Nat → Int32) → (Nat → Int32) → Int32 → (Int32 × Int32 × Int32 × Int32 × Bool × Bool × Int32 × Int32 × Int32 × Int32 × Bool × Bool × Bool × Int32 × Int32 × Int32 × Int32 × Int32 × Int32 × Int32 × Int32 × Int32 × Int32 × Int32 × Int32) × (Nat → Int32) × (Nat → Int32) × (Nat → Int32)
  | 0, o_this_L112, r_this_one_L112, r_this_two_L112, x6_112 => (o_this_L112, r_this_bytes, r_this_one_L112, r_this_two_L112)
  | fuel + 1, o_this_L112, r_this_one_L112, r_this_two_L112, x6_112 => (if (40 : Int32) ≤ x6_112 then (q_let (f_X8_settle r_this_one_L112) fun w_24 => (q_let (f_X8_sign o_this_L112 w_24.1.toInt64) fun w_25 => (if p1 = (249 : Int32) then (w_25, r_this_bytes, w_24.2, r_this_two_L112) else f_X8_decimal_L194 r_this_bytes p2 p3 r_this_two_L112 (((40 : Int32).toInt - ((((2 : Int32) * p3) - (1 : Int32)) : Int32).toInt).toNat + 1) w_25 w_24.2 (((2 : Int32) * p3) - (1 : Int32)) false))) else (if p1 = (249 : Int32) then f_X8_decimal_L112 r_this_bytes p1 p2 p3 fuel o_this_L112 (upd r_this_one_L112 x6_112.toNatClampNeg ((r_this_one_L112 x6_112.toNatClampNeg) + (-(r_this_two_L112 x6_112.toNatClampNeg)))) r_this_two_L112 (x6_112 + (1 : Int32)) else (if p1 = (251 : Int32) then f_X8_decimal_L112 r_this_bytes p1 p2 p3 fuel o_this_L112 (upd r_this_one_L112 x6_112.toNatClampNeg ((r_this_one_L112 x6_112.toNatClampNeg) + (-(r_this_two_L112 x6_112.toNatClampNeg)))) r_this_two_L112 (x6_112 + (1 : Int32)) else f_X8_decimal_L112 r_this_bytes p1 p2 p3 fuel o_this_L112 (upd r_this_one_L112 x6_112.toNatClampNeg ((r_this_one_L112 x6_112.toNatClampNeg) + (r_this_two_L112 x6_112.toNatClampNeg))) r_this_two_L112 (x6_112 + (1 : Int32)))))
def s_X8_decimal_L112 (r_this_bytes : Nat → Int32) (p1 : Int32) (p2 : Int32) (p3 : Int32) : Nat → (Int32 × Int32 × Int32 × Int32 × Bool × Bool × Int32 × Int32 × Int32 × Int32 × Bool × Bool × Bool × Int32 × Int32 × Int32 × Int32 × Int32 × Int32 × Int32 × Int32 × Int32 × Int32 × Int32 × Int32) → (Nat → Int32) → (Nat → Int32) → Int32 → Prop
  | 0, _, _, _, _ => True
  | fuel + 1, o_this_L112, r_this_one_L112, r_this_two_L112, x6_112 => (if (40 : Int32) ≤ x6_112 then (s_X8_settle r_this_one_L112 ∧ (q_let (f_X8_settle r_this_one_L112) fun w_24 => (q_let (f_X8_sign o_this_L112 w_24.1.toInt64) fun w_25 => (if p1 = (249 : Int32) then True else s_X8_decimal_L194 r_this_bytes p2 p3 (((40 : Int32).toInt - ((((2 : Int32) * p3) - (1 : Int32)) : Int32).toInt).toNat + 1) w_25 w_24.2 (((2 : Int32) * p3) - (1 : Int32)) false)))) else (if p1 = (249 : Int32) then s_X8_decimal_L112 r_this_bytes p1 p2 p3 fuel o_this_L112 (upd r_this_one_L112 x6_112.toNatClampNeg ((r_this_one_L112 x6_112.toNatClampNeg) + (-(r_this_two_L112 x6_112.toNatClampNeg)))) r_this_two_L112 (x6_112 + (1 : Int32)) else (if p1 = (251 : Int32) then s_X8_decimal_L112 r_this_bytes p1 p2 p3 fuel o_this_L112 (upd r_this_one_L112 x6_112.toNatClampNeg ((r_this_one_L112 x6_112.toNatClampNeg) + (-(r_this_two_L112 x6_112.toNatClampNeg)))) r_this_two_L112 (x6_112 + (1 : Int32)) else s_X8_decimal_L112 r_this_bytes p1 p2 p3 fuel o_this_L112 (upd r_this_one_L112 x6_112.toNatClampNeg ((r_this_one_L112 x6_112.toNatClampNeg) + (r_this_two_L112 x6_112.toNatClampNeg))) r_this_two_L112 (x6_112 + (1 : Int32)))))
def f_X8_decimal_L194b (r_this_bytes : Nat → Int32) (p2 : Int32) (p3 : Int32) (r_this_two_L112 : Nat → Int32) : Nat → (Int32 × Int32 × Int32 × Int32 × Bool × Bool × Int32 × Int32 × Int32 × Int32 × Bool × Bool × Bool × Int32 × Int32 × Int32 × Int32 × Int32 × Int32 × Int32 × Int32 × Int32 × Int32 × Int32 × Int32) → (Nat → Int32) → Int32 → Bool → (Int32 × Int32 × Int32 × Int32 × Bool × Bool × Int32 × Int32 × Int32 × Int32 × Bool × Bool × Bool × Int32 × Int32 × Int32 × Int32 × Int32 × Int32 × Int32 × Int32 × Int32 × Int32 × Int32 × Int32) × (Nat → Int32) × (Nat → Int32) × (Nat → Int32)
  | 0, o_this_L194, r_this_one_L194, x7_194, x6_194 => (o_this_L194, r_this_bytes, r_this_one_L194, r_this_two_L112)
  | fuel + 1, o_this_L194, r_this_one_L194, x7_194, x6_194 => (if (40 : Int32) ≤ x7_194 then (q_let (f_X8_store r_this_bytes r_this_one_L194 p2 p3) fun w_49 => (if x6_194 = true then (if ((o_this_L194.1 / (16 : Int32)) - (o_this_L194.1 / (16 : Int32)) / (2 : Int32) * (2 : Int32)) = (1 : Int32) then ((o_this_L194.1, o_this_L194.2.1, 3, o_this_L194.2.2.2.1, o_this_L194.2.2.2.2.1, o_this_L194.2.2.2.2.2.1, o_this_L194.2.2.2.2.2.2.1, o_this_L194.2.2.2.2.2.2.2.1, o_this_L194.2.2.2.2.2.2.2.2.1, 10, o_this_L194.2.2.2.2.2.2.2.2.2.2.1, o_this_L194.2.2.2.2.2.2.2.2.2.2.2.1, o_this_L194.2.2.2.2.2.2.2.2.2.2.2.2.1, o_this_L194.2.2.2.2.2.2.2.2.2.2.2.2.2.1, o_this_L194.2.2.2.2.2.2.2.2.2.2.2.2.2.2.1, o_this_L194.2.2.2.2.2.2.2.2.2.2.2.2.2.2.2.1, o_this_L194.2.2.2.2.2.2.2.2.2.2.2.2.2.2.2.2.1, o_this_L194.2.2.2.2.2.2.2.2.2.2.2.2.2.2.2.2.2.1, o_this_L194.2.2.2.2.2.2.2.2.2.2.2.2.2.2.2.2.2.2.1, o_this_L194.2.2.2.2.2.2.2.2.2.2.2.2.2.2.2.2.2.2.2.1, o_this_L194.2.2.2.2.2.2.2.2.2.2.2.2.2.2.2.2.2.2.2.2.1, o_this_L194.2.2.2.2.2.2.2.2.2.2.2.2.2.2.2.2.2.2.2.2.2.1, o_this_L194.2.2.2.2.2.2.2.2.2.2.2.2.2.2.2.2.2.2.2.2.2.2.1, o_this_L194.2.2.2.2.2.2.2.2.2.2.2.2.2.2.2.2.2.2.2.2.2.2.2.1, o_this_L194.2.2.2.2.2.2.2.2.2.2.2.2.2.2.2.2.2.2.2.2.2.2.2.2), w_49, r_this_one_L194, r_this_two_L112) else ((o_this_L194.1, o_this_L194.2.1, 3, o_this_L194.2.2.2.1, o_this_L194.2.2.2.2.1, o_this_L194.2.2.2.2.2.1, o_this_L194.2.2.2.2.2.2.1, o_this_L194.2.2.2.2.2.2.2.1, o_this_L194.2.2.2.2.2.2.2.2.1, 0, o_this_L194.2.2.2.2.2.2.2.2.2.2.1, o_this_L194.2.2.2.2.2.2.2.2.2.2.2.1, o_this_L194.2.2.2.2.2.2.2.2.2.2.2.2.1, o_this_L194.2.2.2.2.2.2.2.2.2.2.2.2.2.1, o_this_L194.2.2.2.2.2.2.2.2.2.2.2.2.2.2.1, o_this_L194.2.2.2.2.2.2.2.2.2.2.2.2.2.2.2.1, o_this_L194.2.2.2.2.2.2.2.2.2.2.2.2.2.2.2.2.1, o_this_L194.2.2.2.2.2.2.2.2.2.2.2.2.2.2.2.2.2.1, o_this_L194.2.2.2.2.2.2.2.2.2.2.2.2.2.2.2.2.2.2.1, o_this_L194.2.2.2.2.2.2.2.2.2.2.2.2.2.2.2.2.2.2.2.1, o_this_L194.2.2.2.2.2.2.2.2.2.2.2.2.2.2.2.2.2.2.2.2.1, o_this_L194.2.2.2.2.2.2.2.2.2.2.2.2.2.2.2.2.2.2.2.2.2.1, o_this_L194.2.2.2.2.2.2.2.2.2.2.2.2.2.2.2.2.2.2.2.2.2.2.1, o_this_L194.2.2.2.2.2.2.2.2.2.2.2.2.2.2.2.2.2.2.2.2.2.2.2.1, o_this_L194.2.2.2.2.2.2.2.2.2.2.2.2.2.2.2.2.2.2.2.2.2.2.2.2), w_49, r_this_one_L194, r_this_two_L112)) else (o_this_L194, w_49, r_this_one_L194, r_this_two_L112))) else (if x6_194 = true then f_X8_decimal_L194b r_this_bytes p2 p3 r_this_two_L112 fuel o_this_L194 r_this_one_L194 (x7_194 + (1 : Int32)) true else (if (r_this_one_L194 x7_194.toNatClampNeg) = 0 then f_X8_decimal_L194b r_this_bytes p2 p3 r_this_two_L112 fuel o_this_L194 r_this_one_L194 (x7_194 + (1 : Int32)) false else f_X8_decimal_L194b r_this_bytes p2 p3 r_this_two_L112 fuel o_this_L194 r_this_one_L194 (x7_194 + (1 : Int32)) true)))
def s_X8_decimal_L194b (r_this_bytes : Nat → Int32) (p2 : Int32) (p3 : Int32) : Nat → (Int32 × Int32 × Int32 × Int32 × Bool × Bool × Int32 × Int32 × Int32 × Int32 × Bool × Bool × Bool × Int32 × Int32 × Int32 × Int32 × Int32 × Int32 × Int32 × Int32 × Int32 × Int32 × Int32 × Int32) → (Nat → Int32) → Int32 → Bool → Prop
  | 0, _, _, _, _ => True
  | fuel + 1, o_this_L194, r_this_one_L194, x7_194, x6_194 => (if (40 : Int32) ≤ x7_194 then s_X8_store r_this_bytes r_this_one_L194 p2 p3 else (if x6_194 = true then s_X8_decimal_L194b r_this_bytes p2 p3 fuel o_this_L194 r_this_one_L194 (x7_194 + (1 : Int32)) true else (vp_in x7_194 40 ∧ (if (r_this_one_L194 x7_194.toNatClampNeg) = 0 then s_X8_decimal_L194b r_this_bytes p2 p3 fuel o_this_L194 r_this_one_L194 (x7_194 + (1 : Int32)) false else s_X8_decimal_L194b r_this_bytes p2 p3 fuel o_this_L194 r_this_one_L194 (x7_194 + (1 : Int32)) true))))
def f_X8_decimal_L112b (r_this_bytes : Nat → Int32) (p1 : Int32) (p2 : Int32) (p3 : Int32) : Nat → (Int32 × Int32 × Int32 × Int32 × Bool × Bool × Int32 × Int32 × Int32 × Int32 × Bool × Bool × Bool × Int32 × Int32 × Int32 × Int32 × Int32 × Int32 × Int32 × Int32 × Int32 × Int32 × Int32 × Int32) → (Nat → Int32) → (Nat → Int32) → Int32 → (Int32 × Int32 × Int32 × Int32 × Bool × Bool × Int32 × Int32 × Int32 × Int32 × Bool × Bool × Bool × Int32 × Int32 × Int32 × Int32 × Int32 × Int32 × Int32 × Int32 × Int32 × Int32 × Int32 × Int32) × (Nat → Int32) × (Nat → Int32) × (Nat → Int32)
  | 0, o_this_L112, r_this_one_L112, r_this_two_L112, x6_112 => (o_this_L112, r_this_bytes, r_this_one_L112, r_this_two_L112)
  | fuel + 1, o_this_L112, r_this_one_L112, r_this_two_L112, x6_112 => (if (40 : Int32) ≤ x6_112 then (q_let (f_X8_settle r_this_one_L112) fun w_43 => (q_let (f_X8_sign o_this_L112 w_43.1.toInt64) fun w_44 => (if p1 = (249 : Int32) then (w_44, r_this_bytes, w_43.2, r_this_two_L112) else f_X8_decimal_L194b r_this_bytes p2 p3 r_this_two_L112 (((40 : Int32).toInt - ((((2 : Int32) * p3) - (1 : Int32)) : Int32).toInt).toNat + 1) w_44 w_43.2 (((2 : Int32) * p3) - (1 : Int32)) false))) else (if p1 = (249 : Int32) then f_X8_decimal_L112b r_this_bytes p1 p2 p3 fuel o_this_L112 (upd r_this_one_L112 x6_112.toNatClampNeg ((r_this_one_L112 x6_112.toNatClampNeg) + (-(r_this_two_L112 x6_112.toNatClampNeg)))) r_this_two_L112 (x6_112 + (1 : Int32)) else (if p1 = (251 : Int32) then f_X8_decimal_L112b r_this_bytes p1 p2 p3 fuel o_this_L112 (upd r_this_one_L112 x6_112.toNatClampNeg ((r_this_one_L112 x6_112.toNatClampNeg) + (-(r_this_two_L112 x6_112.toNatClampNeg)))) r_this_two_L112 (x6_112 + (1 : Int32)) else f_X8_decimal_L112b r_this_bytes p1 p2 p3 fuel o_this_L112 (upd r_this_one_L112 x6_112.toNatClampNeg ((r_this_one_L112 x6_112.toNatClampNeg) + (r_this_two_L112 x6_112.toNatClampNeg))) r_this_two_L112 (x6_112 + (1 : Int32)))))
def s_X8_decimal_L112b (r_this_bytes : Nat → Int32) (p1 : Int32) (p2 : Int32) (p3 : Int32) : Nat → (Int32 × Int32 × Int32 × Int32 × Bool × Bool × Int32 × Int32 × Int32 × Int32 × Bool × Bool × Bool × Int32 × Int32 × Int32 × Int32 × Int32 × Int32 × Int32 × Int32 × Int32 × Int32 × Int32 × Int32) → (Nat → Int32) → (Nat → Int32) → Int32 → Prop
  | 0, _, _, _, _ => True
  | fuel + 1, o_this_L112, r_this_one_L112, r_this_two_L112, x6_112 => (if (40 : Int32) ≤ x6_112 then (s_X8_settle r_this_one_L112 ∧ (q_let (f_X8_settle r_this_one_L112) fun w_43 => (q_let (f_X8_sign o_this_L112 w_43.1.toInt64) fun w_44 => (if p1 = (249 : Int32) then True else s_X8_decimal_L194b r_this_bytes p2 p3 (((40 : Int32).toInt - ((((2 : Int32) * p3) - (1 : Int32)) : Int32).toInt).toNat + 1) w_44 w_43.2 (((2 : Int32) * p3) - (1 : Int32)) false)))) else (if p1 = (249 : Int32) then s_X8_decimal_L112b r_this_bytes p1 p2 p3 fuel o_this_L112 (upd r_this_one_L112 x6_112.toNatClampNeg ((r_this_one_L112 x6_112.toNatClampNeg) + (-(r_this_two_L112 x6_112.toNatClampNeg)))) r_this_two_L112 (x6_112 + (1 : Int32)) else (if p1 = (251 : Int32) then s_X8_decimal_L112b r_this_bytes p1 p2 p3 fuel o_this_L112 (upd r_this_one_L112 x6_112.toNatClampNeg ((r_this_one_L112 x6_112.toNatClampNeg) + (-(r_this_two_L112 x6_112.toNatClampNeg)))) r_this_two_L112 (x6_112 + (1 : Int32)) else s_X8_decimal_L112b r_this_bytes p1 p2 p3 fuel o_this_L112 (upd r_this_one_L112 x6_112.toNatClampNeg ((r_this_one_L112 x6_112.toNatClampNeg) + (r_this_two_L112 x6_112.toNatClampNeg))) r_this_two_L112 (x6_112 + (1 : Int32)))))
def f_X8_decimal (o_this : Int32 × Int32 × Int32 × Int32 × Bool × Bool × Int32 × Int32 × Int32 × Int32 × Bool × Bool × Bool × Int32 × Int32 × Int32 × Int32 × Int32 × Int32 × Int32 × Int32 × Int32 × Int32 × Int32 × Int32) (r_this_bytes : Nat → Int32) (r_this_keys : Nat → Int32) (r_this_one : Nat → Int32) (r_this_two : Nat → Int32) (p1 : Int32) (p2 : Int32) (p3 : Int32) (p4 : Int32) (p5 : Int32) : (Int32 × Int32 × Int32 × Int32 × Bool × Bool × Int32 × Int32 × Int32 × Int32 × Bool × Bool × Bool × Int32 × Int32 × Int32 × Int32 × Int32 × Int32 × Int32 × Int32 × Int32 × Int32 × Int32 × Int32) × (Nat → Int32) × (Nat → Int32) × (Nat → Int32) := (q_let (if p1 = (249 : Int32) then false else true) fun y_1 => (q_let (f_X8_good o_this r_this_keys p2 p3 1 y_1) fun w_4 => (if w_4.1 = true then (q_let (f_X8_good w_4.2 r_this_keys p4 p5 1 false) fun w_7 => (if w_7.1 = true then (q_let (f_X8_unpackB r_this_bytes r_this_two p4 p5) fun w_10 => (q_let (if w_10.1 = true then false else true) fun y_11 => (q_let (f_X8_wrong w_7.2 y_11 7) fun w_13 => (if p1 = (248 : Int32) then (q_let (f_X8_spread r_this_one 0) fun w_38 => (if w_13.2.2.2.2.2.2.2.2.1 ≤ 0 then f_X8_decimal_L112b r_this_bytes p1 p2 p3 (((40 : Int32).toInt - (0 : Int32).toInt).toNat + 1) w_13 w_38 w_10.2 0 else (w_13, r_this_bytes, w_38, w_10.2))) else (q_let (f_X8_unpackA r_this_bytes r_this_one p2 p3) fun w_16 => (q_let (if w_16.1 = true then false else true) fun y_17 => (q_let (f_X8_wrong w_13 y_17 7) fun w_19 => (if w_19.2.2.2.2.2.2.2.2.1 ≤ 0 then f_X8_decimal_L112 r_this_bytes p1 p2 p3 (((40 : Int32).toInt - (0 : Int32).toInt).toNat + 1) w_19 w_16.2 w_10.2 0 else (w_19, r_this_bytes, w_16.2, w_10.2))))))))) else (w_7.2, r_this_bytes, r_this_one, r_this_two))) else (w_4.2, r_this_bytes, r_this_one, r_this_two))))
def s_X8_decimal (o_this : Int32 × Int32 × Int32 × Int32 × Bool × Bool × Int32 × Int32 × Int32 × Int32 × Bool × Bool × Bool × Int32 × Int32 × Int32 × Int32 × Int32 × Int32 × Int32 × Int32 × Int32 × Int32 × Int32 × Int32) (r_this_bytes : Nat → Int32) (r_this_keys : Nat → Int32) (r_this_one : Nat → Int32) (r_this_two : Nat → Int32) (p1 : Int32) (p2 : Int32) (p3 : Int32) (p4 : Int32) (p5 : Int32) : Prop := (q_let (if p1 = (249 : Int32) then false else true) fun y_1 => (s_X8_good o_this r_this_keys p2 p3 1 y_1 ∧ (q_let (f_X8_good o_this r_this_keys p2 p3 1 y_1) fun w_4 => (if w_4.1 = true then (s_X8_good w_4.2 r_this_keys p4 p5 1 false ∧ (q_let (f_X8_good w_4.2 r_this_keys p4 p5 1 false) fun w_7 => (if w_7.1 = true then (s_X8_unpackB r_this_bytes r_this_two p4 p5 ∧ (q_let (f_X8_unpackB r_this_bytes r_this_two p4 p5) fun w_10 => (q_let (if w_10.1 = true then false else true) fun y_11 => (q_let (f_X8_wrong w_7.2 y_11 7) fun w_13 => (if p1 = (248 : Int32) then (q_let (f_X8_spread r_this_one 0) fun w_38 => (if w_13.2.2.2.2.2.2.2.2.1 ≤ 0 then s_X8_decimal_L112b r_this_bytes p1 p2 p3 (((40 : Int32).toInt - (0 : Int32).toInt).toNat + 1) w_13 w_38 w_10.2 0 else True)) else (s_X8_unpackA r_this_bytes r_this_one p2 p3 ∧ (q_let (f_X8_unpackA r_this_bytes r_this_one p2 p3) fun w_16 => (q_let (if w_16.1 = true then false else true) fun y_17 => (q_let (f_X8_wrong w_13 y_17 7) fun w_19 => (if w_19.2.2.2.2.2.2.2.2.1 ≤ 0 then s_X8_decimal_L112 r_this_bytes p1 p2 p3 (((40 : Int32).toInt - (0 : Int32).toInt).toNat + 1) w_19 w_16.2 w_10.2 0 else True)))))))))) else True))) else True))))
set_option linter.all false in
set_option maxHeartbeats 4000000 in
set_option maxRecDepth 100000 in
theorem c_X8_decimal (l : Launch) (D : va_G) (a_this a_this_bytes a_this_keys a_this_one a_this_two a_this_reg a_this_card a_this_filled a_this_taken a_this_line : Nat) (k_this_bytes k_this_keys k_this_one k_this_two : ClassId) (o_this : Int32 × Int32 × Int32 × Int32 × Bool × Bool × Int32 × Int32 × Int32 × Int32 × Bool × Bool × Bool × Int32 × Int32 × Int32 × Int32 × Int32 × Int32 × Int32 × Int32 × Int32 × Int32 × Int32 × Int32) (r_this_bytes : Nat → Int32) (r_this_keys : Nat → Int32) (r_this_one : Nat → Int32) (r_this_two : Nat → Int32) (p1 : Int32) (p2 : Int32) (p3 : Int32) (p4 : Int32) (p5 : Int32) (hs : s_X8_decimal o_this r_this_bytes r_this_keys r_this_one r_this_two p1 p2 p3 p4 p5) : CtV l yX8_decimal cX8_decimal 8 none { frames := 2, cells := 0, slots := 0, locals := 51 } D [.ref a_this, .int p1, .int p2, .int p3, .int p4, .int p5] [(a_this, oX8 a_this_bytes a_this_keys a_this_reg a_this_card a_this_filled a_this_taken a_this_line a_this_one a_this_two o_this), (a_this_bytes, .inl (k_this_bytes, 2048, .inl r_this_bytes)), (a_this_keys, .inl (k_this_keys, 8, .inl r_this_keys)), (a_this_one, .inl (k_this_one, 40, .inl r_this_one)), (a_this_two, .inl (k_this_two, 40, .inl r_this_two))] [(k_this_bytes, .int), (k_this_keys, .int), (k_this_one, .int), (k_this_two, .int)] (fun (u : (Int32 × Int32 × Int32 × Int32 × Bool × Bool × Int32 × Int32 × Int32 × Int32 × Bool × Bool × Bool × Int32 × Int32 × Int32 × Int32 × Int32 × Int32 × Int32 × Int32 × Int32 × Int32 × Int32 × Int32) × (Nat → Int32) × (Nat → Int32) × (Nat → Int32)) => f_X8_decimal o_this r_this_bytes r_this_keys r_this_one r_this_two p1 p2 p3 p4 p5 = u) (fun u => [(a_this, oX8 a_this_bytes a_this_keys a_this_reg a_this_card a_this_filled a_this_taken a_this_line a_this_one a_this_two u.1), (a_this_bytes, .inl (k_this_bytes, 2048, .inl u.2.1)), (a_this_keys, .inl (k_this_keys, 8, .inl r_this_keys)), (a_this_one, .inl (k_this_one, 40, .inl u.2.2.1)), (a_this_two, .inl (k_this_two, 40, .inl u.2.2.2))]) := by
  refine CtV.of (by decide) (Nat.le_of_ble_eq_true rfl) ?_
  intro p e s m below meth c A ls Q hE hP hD hS hl hQ
  obtain ⟨hx, hb, hml, hown, ht, hN, hK, hA⟩ := hE
  have hown : s.vm.findClass RX8 = some m.cls := hown
  have hl : lv_has ls 8 [(0, .ref a_this), (1, .int p1), (2, .int p2), (3, .int p3), (4, .int p4), (5, .int p5)] := hl
  obtain ⟨F, hF⟩ : ∃ F, f_X8_decimal o_this r_this_bytes r_this_keys r_this_one r_this_two p1 p2 p3 p4 p5 = F := ⟨_, rfl⟩
  rw [hF] at hQ
  unfold f_X8_decimal at hF
  unfold s_X8_decimal at hs
  refine lv_aload_n hx hb dX8_decimal_0 rfl (lv_at hl 0 rfl) ?_
  refine lv_iload_n hx hb dX8_decimal_1 rfl (lv_at hl 2 rfl) ?_
  refine lv_iload_n hx hb dX8_decimal_2 rfl (lv_at hl 3 rfl) ?_
  refine lv_iconst (v := 1) hx hb dX8_decimal_3 (by decide) ?_
  obtain ⟨y_1, hV⟩ : ∃ Y : Bool, (if p1 = (249 : Int32) then false else true) = Y := ⟨_, rfl⟩
  rw [q_let_of hV] at hF
  rw [q_let_of hV] at hs
  have J1 : ∀ (H : Heap) (locs : List Loc), va_P D vwCl [(a_this, oX8 a_this_bytes a_this_keys a_this_reg a_this_card a_this_filled a_this_taken a_this_line a_this_one a_this_two o_this), (a_this_bytes, .inl (k_this_bytes, 2048, .inl r_this_bytes)), (a_this_keys, .inl (k_this_keys, 8, .inl r_this_keys)), (a_this_one, .inl (k_this_one, 40, .inl r_this_one)), (a_this_two, .inl (k_this_two, 40, .inl r_this_two))] H → va_D A [(a_this, oX8 a_this_bytes a_this_keys a_this_reg a_this_card a_this_filled a_this_taken a_this_line a_this_one a_this_two o_this), (a_this_bytes, .inl (k_this_bytes, 2048, .inl r_this_bytes)), (a_this_keys, .inl (k_this_keys, 8, .inl r_this_keys)), (a_this_one, .inl (k_this_one, 40, .inl r_this_one)), (a_this_two, .inl (k_this_two, 40, .inl r_this_two))] → va_S A s.heap H locs → W p l e ({ frames := 2, cells := 0, slots := 0, locals := 51 } : Room) s m ([.ref a_this, .int p1, .int p2, .int p3, .int p4, .int p5] : List Value).toArray below meth c H locs 0 0 Q (F0 m 16 ls [.int (bI y_1), .int 1, .int p3, .int p2, .ref a_this]) := by
    intro H locs hP hD hS
    clear hV
    obtain ⟨hi_3, hs⟩ := hs
    refine q_Vi (rest := []) (c_X8_good l D a_this a_this_keys a_this_bytes a_this_reg a_this_card a_this_filled a_this_taken a_this_line a_this_one a_this_two k_this_keys o_this r_this_keys p2 p3 1 y_1 hi_3) cv_X8_good hx hb hml hown ht hN hK hA hP hD hS hl.1 (km_X8_158) ⟨Nat.le_of_ble_eq_true rfl, Nat.le_of_ble_eq_true rfl⟩ rfl rfl [0, 2] (by decide) rfl [1] rfl (fun _ => rfl) (ci := 8) rfl rfl rfl rfl rfl (Nat.le_of_ble_eq_true rfl) dX8_decimal_16 ⟨Nat.zero_le _, Nat.zero_le _⟩ (fun r w_4 H locs hw hP hD hS => ?_)
    obtain ⟨hw, hr⟩ := hw
    subst hr
    have hP : va_P D vwCl [(a_this, oX8 a_this_bytes a_this_keys a_this_reg a_this_card a_this_filled a_this_taken a_this_line a_this_one a_this_two w_4.2), (a_this_bytes, .inl (k_this_bytes, 2048, .inl r_this_bytes)), (a_this_keys, .inl (k_this_keys, 8, .inl r_this_keys)), (a_this_one, .inl (k_this_one, 40, .inl r_this_one)), (a_this_two, .inl (k_this_two, 40, .inl r_this_two))] H := hP
    have hD : va_D A [(a_this, oX8 a_this_bytes a_this_keys a_this_reg a_this_card a_this_filled a_this_taken a_this_line a_this_one a_this_two w_4.2), (a_this_bytes, .inl (k_this_bytes, 2048, .inl r_this_bytes)), (a_this_keys, .inl (k_this_keys, 8, .inl r_this_keys)), (a_this_one, .inl (k_this_one, 40, .inl r_this_one)), (a_this_two, .inl (k_this_two, 40, .inl r_this_two))] := hD
    rw [q_let_of hw] at hF
    rw [q_let_of hw] at hs
    refine lv_if_eq (tgt := 35) hx hb dX8_decimal_19 (by decide) (fun c_5 => ?_) (fun c_5 => ?_)
    · have c_5 : ¬ w_4.1 = true := by rw [(bI_eq0 _).mp c_5]; decide
      rw [if_neg c_5] at hF
      rw [if_neg c_5] at hs
      exact hQ (w_4.2, r_this_bytes, r_this_one, r_this_two) _ _ _ _ dX8_decimal_35 hF.symm hP hD hS
    · have c_5 := (bI_ne0 _).mp c_5
      rw [if_pos c_5] at hF
      rw [if_pos c_5] at hs
      refine lv_aload_n hx hb dX8_decimal_22 rfl (lv_at hl 0 rfl) ?_
      refine lv_iload hx hb dX8_decimal_23 (lv_at hl 4 rfl) ?_
      refine lv_iload hx hb dX8_decimal_25 (lv_at hl 5 rfl) ?_
      refine lv_iconst (v := 1) hx hb dX8_decimal_27 (by decide) ?_
      refine lv_iconst (v := 0) hx hb dX8_decimal_28 (by decide) ?_
      obtain ⟨hi_6, hs⟩ := hs
      refine q_Vi (rest := []) (c_X8_good l D a_this a_this_keys a_this_bytes a_this_reg a_this_card a_this_filled a_this_taken a_this_line a_this_one a_this_two k_this_keys w_4.2 r_this_keys p4 p5 1 false hi_6) cv_X8_good hx hb hml hown ht hN hK hA hP hD hS hl.1 (km_X8_158) ⟨Nat.le_of_ble_eq_true rfl, Nat.le_of_ble_eq_true rfl⟩ rfl rfl [0, 2] (by decide) rfl [1] rfl (fun _ => rfl) (ci := 8) rfl rfl rfl rfl rfl (Nat.le_of_ble_eq_true rfl) dX8_decimal_29 ⟨Nat.zero_le _, Nat.zero_le _⟩ (fun r w_7 H locs hw hP hD hS => ?_)
      obtain ⟨hw, hr⟩ := hw
      subst hr
      have hP : va_P D vwCl [(a_this, oX8 a_this_bytes a_this_keys a_this_reg a_this_card a_this_filled a_this_taken a_this_line a_this_one a_this_two w_7.2), (a_this_bytes, .inl (k_this_bytes, 2048, .inl r_this_bytes)), (a_this_keys, .inl (k_this_keys, 8, .inl r_this_keys)), (a_this_one, .inl (k_this_one, 40, .inl r_this_one)), (a_this_two, .inl (k_this_two, 40, .inl r_this_two))] H := hP
      have hD : va_D A [(a_this, oX8 a_this_bytes a_this_keys a_this_reg a_this_card a_this_filled a_this_taken a_this_line a_this_one a_this_two w_7.2), (a_this_bytes, .inl (k_this_bytes, 2048, .inl r_this_bytes)), (a_this_keys, .inl (k_this_keys, 8, .inl r_this_keys)), (a_this_one, .inl (k_this_one, 40, .inl r_this_one)), (a_this_two, .inl (k_this_two, 40, .inl r_this_two))] := hD
      rw [q_let_of hw] at hF
      rw [q_let_of hw] at hs
      refine lv_if_ne (tgt := 36) hx hb dX8_decimal_32 (by decide) (fun c_8 => ?_) (fun c_8 => ?_)
      · have c_8 := (bI_ne0 _).mp c_8
        rw [if_pos c_8] at hF
        rw [if_pos c_8] at hs
        refine lv_aload_n hx hb dX8_decimal_36 rfl (lv_at hl 0 rfl) ?_
        refine lv_aload_n hx hb dX8_decimal_37 rfl (lv_at hl 0 rfl) ?_
        refine lv_aload_n hx hb dX8_decimal_38 rfl (lv_at hl 0 rfl) ?_
        refine gf_X8_34 (v := .ref a_this_two) hx hb hown ht hK hP 0 rfl rfl dX8_decimal_39 ?_
        refine lv_iload hx hb dX8_decimal_42 (lv_at hl 4 rfl) ?_
        refine lv_iload hx hb dX8_decimal_44 (lv_at hl 5 rfl) ?_
        obtain ⟨hi_9, hs⟩ := hs
        refine q_Vi (rest := [.ref a_this]) (c_X8_unpackB l D a_this a_this_bytes a_this_two a_this_keys a_this_reg a_this_card a_this_filled a_this_taken a_this_line a_this_one k_this_bytes k_this_two w_7.2 r_this_bytes r_this_two p4 p5 hi_9) cv_X8_unpack hx hb hml hown ht hN hK hA hP hD hS hl.1 (km_X8_180) ⟨Nat.le_of_ble_eq_true rfl, Nat.le_of_ble_eq_true rfl⟩ rfl rfl [0, 1, 4] (by decide) rfl [0, 3] rfl (fun _ => rfl) (ci := 8) rfl rfl rfl rfl rfl (Nat.le_of_ble_eq_true rfl) dX8_decimal_46 ⟨Nat.zero_le _, Nat.zero_le _⟩ (fun r w_10 H locs hw hP hD hS => ?_)
        obtain ⟨hw, hr⟩ := hw
        subst hr
        have hP : va_P D vwCl [(a_this, oX8 a_this_bytes a_this_keys a_this_reg a_this_card a_this_filled a_this_taken a_this_line a_this_one a_this_two w_7.2), (a_this_bytes, .inl (k_this_bytes, 2048, .inl r_this_bytes)), (a_this_keys, .inl (k_this_keys, 8, .inl r_this_keys)), (a_this_one, .inl (k_this_one, 40, .inl r_this_one)), (a_this_two, .inl (k_this_two, 40, .inl w_10.2))] H := hP
        have hD : va_D A [(a_this, oX8 a_this_bytes a_this_keys a_this_reg a_this_card a_this_filled a_this_taken a_this_line a_this_one a_this_two w_7.2), (a_this_bytes, .inl (k_this_bytes, 2048, .inl r_this_bytes)), (a_this_keys, .inl (k_this_keys, 8, .inl r_this_keys)), (a_this_one, .inl (k_this_one, 40, .inl r_this_one)), (a_this_two, .inl (k_this_two, 40, .inl w_10.2))] := hD
        rw [q_let_of hw] at hF
        rw [q_let_of hw] at hs
        obtain ⟨y_11, hV⟩ : ∃ Y : Bool, (if w_10.1 = true then false else true) = Y := ⟨_, rfl⟩
        rw [q_let_of hV] at hF
        rw [q_let_of hV] at hs
        have J11 : ∀ (H : Heap) (locs : List Loc), va_P D vwCl [(a_this, oX8 a_this_bytes a_this_keys a_this_reg a_this_card a_this_filled a_this_taken a_this_line a_this_one a_this_two w_7.2), (a_this_bytes, .inl (k_this_bytes, 2048, .inl r_this_bytes)), (a_this_keys, .inl (k_this_keys, 8, .inl r_this_keys)), (a_this_one, .inl (k_this_one, 40, .inl r_this_one)), (a_this_two, .inl (k_this_two, 40, .inl w_10.2))] H → va_D A [(a_this, oX8 a_this_bytes a_this_keys a_this_reg a_this_card a_this_filled a_this_taken a_this_line a_this_one a_this_two w_7.2), (a_this_bytes, .inl (k_this_bytes, 2048, .inl r_this_bytes)), (a_this_keys, .inl (k_this_keys, 8, .inl r_this_keys)), (a_this_one, .inl (k_this_one, 40, .inl r_this_one)), (a_this_two, .inl (k_this_two, 40, .inl w_10.2))] → va_S A s.heap H locs → W p l e ({ frames := 2, cells := 0, slots := 0, locals := 51 } : Room) s m ([.ref a_this, .int p1, .int p2, .int p3, .int p4, .int p5] : List Value).toArray below meth c H locs 0 0 Q (F0 m 57 ls [.int (bI y_11), .ref a_this]) := by
          intro H locs hP hD hS
          clear hV
          refine lv_bipush (v := 7) hx hb dX8_decimal_57 (by decide) ?_
          refine q_Vv (rest := []) (c_X8_wrong l D a_this a_this_bytes a_this_keys a_this_reg a_this_card a_this_filled a_this_taken a_this_line a_this_one a_this_two w_7.2 y_11 7) cv_X8_wrong hx hb hml hown ht hN hK hA hP hD hS hl.1 (km_X8_42) ⟨Nat.le_of_ble_eq_true rfl, Nat.le_of_ble_eq_true rfl⟩ rfl rfl [0] (by decide) rfl [] rfl (fun _ => rfl) (ci := 8) rfl rfl rfl rfl rfl (Nat.le_of_ble_eq_true rfl) dX8_decimal_59 ⟨Nat.zero_le _, Nat.zero_le _⟩ (fun w_13 H locs hw hP hD hS => ?_)
          have hP : va_P D vwCl [(a_this, oX8 a_this_bytes a_this_keys a_this_reg a_this_card a_this_filled a_this_taken a_this_line a_this_one a_this_two w_13), (a_this_bytes, .inl (k_this_bytes, 2048, .inl r_this_bytes)), (a_this_keys, .inl (k_this_keys, 8, .inl r_this_keys)), (a_this_one, .inl (k_this_one, 40, .inl r_this_one)), (a_this_two, .inl (k_this_two, 40, .inl w_10.2))] H := hP
          have hD : va_D A [(a_this, oX8 a_this_bytes a_this_keys a_this_reg a_this_card a_this_filled a_this_taken a_this_line a_this_one a_this_two w_13), (a_this_bytes, .inl (k_this_bytes, 2048, .inl r_this_bytes)), (a_this_keys, .inl (k_this_keys, 8, .inl r_this_keys)), (a_this_one, .inl (k_this_one, 40, .inl r_this_one)), (a_this_two, .inl (k_this_two, 40, .inl w_10.2))] := hD
          rw [q_let_of hw] at hF
          rw [q_let_of hw] at hs
          refine lv_iload_n hx hb dX8_decimal_62 rfl (lv_at hl 1 rfl) ?_
          refine lv_sipush (v := 248) hx hb dX8_decimal_63 (by decide) ?_
          refine lv_icmp_ne (tgt := 77) hx hb dX8_decimal_66 (by decide) (fun c_14 => ?_) (fun c_14 => ?_)
          · skip
            rw [if_neg c_14] at hF
            rw [if_neg c_14] at hs
            refine lv_aload_n hx hb dX8_decimal_77 rfl (lv_at hl 0 rfl) ?_
            refine lv_aload_n hx hb dX8_decimal_78 rfl (lv_at hl 0 rfl) ?_
            refine lv_aload_n hx hb dX8_decimal_79 rfl (lv_at hl 0 rfl) ?_
            refine gf_X8_31 (v := .ref a_this_one) hx hb hown ht hK hP 0 rfl rfl dX8_decimal_80 ?_
            refine lv_iload_n hx hb dX8_decimal_83 rfl (lv_at hl 2 rfl) ?_
            refine lv_iload_n hx hb dX8_decimal_84 rfl (lv_at hl 3 rfl) ?_
            obtain ⟨hi_15, hs⟩ := hs
            refine q_Vi (rest := [.ref a_this]) (c_X8_unpackA l D a_this a_this_bytes a_this_one a_this_keys a_this_reg a_this_card a_this_filled a_this_taken a_this_line a_this_two k_this_bytes k_this_one w_13 r_this_bytes r_this_one p2 p3 hi_15) cv_X8_unpack hx hb hml hown ht hN hK hA hP hD hS hl.1 (km_X8_180) ⟨Nat.le_of_ble_eq_true rfl, Nat.le_of_ble_eq_true rfl⟩ rfl rfl [0, 1, 3] (by decide) rfl [0, 2] rfl (fun _ => rfl) (ci := 8) rfl rfl rfl rfl rfl (Nat.le_of_ble_eq_true rfl) dX8_decimal_85 ⟨Nat.zero_le _, Nat.zero_le _⟩ (fun r w_16 H locs hw hP hD hS => ?_)
            obtain ⟨hw, hr⟩ := hw
            subst hr
            have hP : va_P D vwCl [(a_this, oX8 a_this_bytes a_this_keys a_this_reg a_this_card a_this_filled a_this_taken a_this_line a_this_one a_this_two w_13), (a_this_bytes, .inl (k_this_bytes, 2048, .inl r_this_bytes)), (a_this_keys, .inl (k_this_keys, 8, .inl r_this_keys)), (a_this_one, .inl (k_this_one, 40, .inl w_16.2)), (a_this_two, .inl (k_this_two, 40, .inl w_10.2))] H := hP
            have hD : va_D A [(a_this, oX8 a_this_bytes a_this_keys a_this_reg a_this_card a_this_filled a_this_taken a_this_line a_this_one a_this_two w_13), (a_this_bytes, .inl (k_this_bytes, 2048, .inl r_this_bytes)), (a_this_keys, .inl (k_this_keys, 8, .inl r_this_keys)), (a_this_one, .inl (k_this_one, 40, .inl w_16.2)), (a_this_two, .inl (k_this_two, 40, .inl w_10.2))] := hD
            rw [q_let_of hw] at hF
            rw [q_let_of hw] at hs
            obtain ⟨y_17, hV⟩ : ∃ Y : Bool, (if w_16.1 = true then false else true) = Y := ⟨_, rfl⟩
            rw [q_let_of hV] at hF
            rw [q_let_of hV] at hs
            have J17 : ∀ (H : Heap) (locs : List Loc), va_P D vwCl [(a_this, oX8 a_this_bytes a_this_keys a_this_reg a_this_card a_this_filled a_this_taken a_this_line a_this_one a_this_two w_13), (a_this_bytes, .inl (k_this_bytes, 2048, .inl r_this_bytes)), (a_this_keys, .inl (k_this_keys, 8, .inl r_this_keys)), (a_this_one, .inl (k_this_one, 40, .inl w_16.2)), (a_this_two, .inl (k_this_two, 40, .inl w_10.2))] H → va_D A [(a_this, oX8 a_this_bytes a_this_keys a_this_reg a_this_card a_this_filled a_this_taken a_this_line a_this_one a_this_two w_13), (a_this_bytes, .inl (k_this_bytes, 2048, .inl r_this_bytes)), (a_this_keys, .inl (k_this_keys, 8, .inl r_this_keys)), (a_this_one, .inl (k_this_one, 40, .inl w_16.2)), (a_this_two, .inl (k_this_two, 40, .inl w_10.2))] → va_S A s.heap H locs → W p l e ({ frames := 2, cells := 0, slots := 0, locals := 51 } : Room) s m ([.ref a_this, .int p1, .int p2, .int p3, .int p4, .int p5] : List Value).toArray below meth c H locs 0 0 Q (F0 m 96 ls [.int (bI y_17), .ref a_this]) := by
              intro H locs hP hD hS
              clear hV
              refine lv_bipush (v := 7) hx hb dX8_decimal_96 (by decide) ?_
              refine q_Vv (rest := []) (c_X8_wrong l D a_this a_this_bytes a_this_keys a_this_reg a_this_card a_this_filled a_this_taken a_this_line a_this_one a_this_two w_13 y_17 7) cv_X8_wrong hx hb hml hown ht hN hK hA hP hD hS hl.1 (km_X8_42) ⟨Nat.le_of_ble_eq_true rfl, Nat.le_of_ble_eq_true rfl⟩ rfl rfl [0] (by decide) rfl [] rfl (fun _ => rfl) (ci := 8) rfl rfl rfl rfl rfl (Nat.le_of_ble_eq_true rfl) dX8_decimal_98 ⟨Nat.zero_le _, Nat.zero_le _⟩ (fun w_19 H locs hw hP hD hS => ?_)
              have hP : va_P D vwCl [(a_this, oX8 a_this_bytes a_this_keys a_this_reg a_this_card a_this_filled a_this_taken a_this_line a_this_one a_this_two w_19), (a_this_bytes, .inl (k_this_bytes, 2048, .inl r_this_bytes)), (a_this_keys, .inl (k_this_keys, 8, .inl r_this_keys)), (a_this_one, .inl (k_this_one, 40, .inl w_16.2)), (a_this_two, .inl (k_this_two, 40, .inl w_10.2))] H := hP
              have hD : va_D A [(a_this, oX8 a_this_bytes a_this_keys a_this_reg a_this_card a_this_filled a_this_taken a_this_line a_this_one a_this_two w_19), (a_this_bytes, .inl (k_this_bytes, 2048, .inl r_this_bytes)), (a_this_keys, .inl (k_this_keys, 8, .inl r_this_keys)), (a_this_one, .inl (k_this_one, 40, .inl w_16.2)), (a_this_two, .inl (k_this_two, 40, .inl w_10.2))] := hD
              rw [q_let_of hw] at hF
              rw [q_let_of hw] at hs
              refine lv_aload_n hx hb dX8_decimal_101 rfl (lv_at hl 0 rfl) ?_
              refine gf_X8_38 (v := .int w_19.2.2.2.2.2.2.2.2.1) hx hb hown ht hK hP 0 rfl rfl dX8_decimal_102 ?_
              refine lv_if_le (tgt := 109) hx hb dX8_decimal_105 (by decide) (fun c_20 => ?_) (fun c_20 => ?_)
              · skip
                rw [if_pos c_20] at hF
                rw [if_pos c_20] at hs
                refine lv_iconst (v := 0) hx hb dX8_decimal_109 (by decide) ?_
                refine lv_istore (lv' := [(6, .int 0), (0, .ref a_this), (1, .int p1), (2, .int p2), (3, .int p3), (4, .int p4), (5, .int p5)]) hx hb dX8_decimal_110 hl (by decide) rfl (fun ls hl => ?_)
                have L112 : ∀ (fuel : Nat) (o_this_L112 : Int32 × Int32 × Int32 × Int32 × Bool × Bool × Int32 × Int32 × Int32 × Int32 × Bool × Bool × Bool × Int32 × Int32 × Int32 × Int32 × Int32 × Int32 × Int32 × Int32 × Int32 × Int32 × Int32 × Int32) (r_this_one_L112 : Nat → Int32) (r_this_two_L112 : Nat → Int32) (x6_112 : Int32) (H : Heap) (locs : List Loc) (ls : Array Slot), ((40 : Int32).toInt - (x6_112 : Int32).toInt).toNat < fuel → ¬ x6_112 < 0 → va_P D vwCl [(a_this, oX8 a_this_bytes a_this_keys a_this_reg a_this_card a_this_filled a_this_taken a_this_line a_this_one a_this_two o_this_L112), (a_this_bytes, .inl (k_this_bytes, 2048, .inl r_this_bytes)), (a_this_keys, .inl (k_this_keys, 8, .inl r_this_keys)), (a_this_one, .inl (k_this_one, 40, .inl r_this_one_L112)), (a_this_two, .inl (k_this_two, 40, .inl r_this_two_L112))] H → va_D A [(a_this, oX8 a_this_bytes a_this_keys a_this_reg a_this_card a_this_filled a_this_taken a_this_line a_this_one a_this_two o_this_L112), (a_this_bytes, .inl (k_this_bytes, 2048, .inl r_this_bytes)), (a_this_keys, .inl (k_this_keys, 8, .inl r_this_keys)), (a_this_one, .inl (k_this_one, 40, .inl r_this_one_L112)), (a_this_two, .inl (k_this_two, 40, .inl r_this_two_L112))] → va_S A s.heap H locs → lv_has ls 8 [(6, .int x6_112), (0, .ref a_this), (1, .int p1), (2, .int p2), (3, .int p3), (4, .int p4), (5, .int p5)] → f_X8_decimal_L112 r_this_bytes p1 p2 p3 fuel o_this_L112 r_this_one_L112 r_this_two_L112 x6_112 = F → s_X8_decimal_L112 r_this_bytes p1 p2 p3 fuel o_this_L112 r_this_one_L112 r_this_two_L112 x6_112 → W p l e ({ frames := 2, cells := 0, slots := 0, locals := 51 } : Room) s m ([.ref a_this, .int p1, .int p2, .int p3, .int p4, .int p5] : List Value).toArray below meth c H locs 0 0 Q (F0 m 112 ls []) := by
                  intro fuel
                  induction fuel with
                  | zero => intro o_this_L112 r_this_one_L112 r_this_two_L112 x6_112 H locs ls hm; exact absurd hm (Nat.not_lt_zero _)
                  | succ fuel ih =>
                    intro o_this_L112 r_this_one_L112 r_this_two_L112 x6_112 H locs ls hm hv hP hD hS hl hF hs
                    rw [f_X8_decimal_L112] at hF
                    rw [s_X8_decimal_L112] at hs
                    skip
                    refine lv_iload hx hb dX8_decimal_112 (lv_at hl 0 rfl) ?_
                    refine lv_bipush (v := 40) hx hb dX8_decimal_114 (by decide) ?_
                    refine lv_icmp_ge (tgt := 167) hx hb dX8_decimal_116 (by decide) (fun c_22 => ?_) (fun c_22 => ?_)
                    · skip
                      rw [if_pos c_22] at hF
                      rw [if_pos c_22] at hs
                      refine lv_aload_n hx hb dX8_decimal_167 rfl (lv_at hl 1 rfl) ?_
                      refine lv_aload_n hx hb dX8_decimal_168 rfl (lv_at hl 1 rfl) ?_
                      obtain ⟨hi_23, hs⟩ := hs
                      refine q_Vi (rest := [.ref a_this]) (c_X8_settle l D a_this a_this_one a_this_bytes a_this_keys a_this_reg a_this_card a_this_filled a_this_taken a_this_line a_this_two k_this_one o_this_L112 r_this_one_L112 hi_23) cv_X8_settle hx hb hml hown ht hN hK hA hP hD hS hl.1 (km_X8_207) ⟨Nat.le_of_ble_eq_true rfl, Nat.le_of_ble_eq_true rfl⟩ rfl rfl [0, 3] (by decide) rfl [2] rfl (fun _ => rfl) (ci := 8) rfl rfl rfl rfl rfl (Nat.le_of_ble_eq_true rfl) dX8_decimal_169 ⟨Nat.zero_le _, Nat.zero_le _⟩ (fun r w_24 H locs hw hP hD hS => ?_)
                      obtain ⟨hw, hr⟩ := hw
                      subst hr
                      have hP : va_P D vwCl [(a_this, oX8 a_this_bytes a_this_keys a_this_reg a_this_card a_this_filled a_this_taken a_this_line a_this_one a_this_two o_this_L112), (a_this_bytes, .inl (k_this_bytes, 2048, .inl r_this_bytes)), (a_this_keys, .inl (k_this_keys, 8, .inl r_this_keys)), (a_this_one, .inl (k_this_one, 40, .inl w_24.2)), (a_this_two, .inl (k_this_two, 40, .inl r_this_two_L112))] H := hP
                      have hD : va_D A [(a_this, oX8 a_this_bytes a_this_keys a_this_reg a_this_card a_this_filled a_this_taken a_this_line a_this_one a_this_two o_this_L112), (a_this_bytes, .inl (k_this_bytes, 2048, .inl r_this_bytes)), (a_this_keys, .inl (k_this_keys, 8, .inl r_this_keys)), (a_this_one, .inl (k_this_one, 40, .inl w_24.2)), (a_this_two, .inl (k_this_two, 40, .inl r_this_two_L112))] := hD
                      rw [q_let_of hw] at hF
                      rw [q_let_of hw] at hs
                      refine lv_i2l hx hb dX8_decimal_172 rfl ?_
                      refine q_Vv (rest := []) (c_X8_sign l D a_this a_this_bytes a_this_keys a_this_reg a_this_card a_this_filled a_this_taken a_this_line a_this_one a_this_two o_this_L112 w_24.1.toInt64) cv_X8_sign hx hb hml hown ht hN hK hA hP hD hS hl.1 (km_X8_120) ⟨Nat.le_of_ble_eq_true rfl, Nat.le_of_ble_eq_true rfl⟩ rfl rfl [0] (by decide) rfl [] rfl (fun _ => rfl) (ci := 8) rfl rfl rfl rfl rfl (Nat.le_of_ble_eq_true rfl) dX8_decimal_173 ⟨Nat.zero_le _, Nat.zero_le _⟩ (fun w_25 H locs hw hP hD hS => ?_)
                      have hP : va_P D vwCl [(a_this, oX8 a_this_bytes a_this_keys a_this_reg a_this_card a_this_filled a_this_taken a_this_line a_this_one a_this_two w_25), (a_this_bytes, .inl (k_this_bytes, 2048, .inl r_this_bytes)), (a_this_keys, .inl (k_this_keys, 8, .inl r_this_keys)), (a_this_one, .inl (k_this_one, 40, .inl w_24.2)), (a_this_two, .inl (k_this_two, 40, .inl r_this_two_L112))] H := hP
                      have hD : va_D A [(a_this, oX8 a_this_bytes a_this_keys a_this_reg a_this_card a_this_filled a_this_taken a_this_line a_this_one a_this_two w_25), (a_this_bytes, .inl (k_this_bytes, 2048, .inl r_this_bytes)), (a_this_keys, .inl (k_this_keys, 8, .inl r_this_keys)), (a_this_one, .inl (k_this_one, 40, .inl w_24.2)), (a_this_two, .inl (k_this_two, 40, .inl r_this_two_L112))] := hD
                      rw [q_let_of hw] at hF
                      rw [q_let_of hw] at hs
                      refine lv_iload_n hx hb dX8_decimal_176 rfl (lv_at hl 2 rfl) ?_
                      refine lv_sipush (v := 249) hx hb dX8_decimal_177 (by decide) ?_
                      refine lv_icmp_ne (tgt := 184) hx hb dX8_decimal_180 (by decide) (fun c_26 => ?_) (fun c_26 => ?_)
                      · skip
                        rw [if_neg c_26] at hF
                        rw [if_neg c_26] at hs
                        refine lv_iconst (v := 0) hx hb dX8_decimal_184 (by decide) ?_
                        refine lv_istore (lv' := [(6, .int 0), (0, .ref a_this), (1, .int p1), (2, .int p2), (3, .int p3), (4, .int p4), (5, .int p5)]) hx hb dX8_decimal_185 hl (by decide) rfl (fun ls hl => ?_)
                        refine lv_iconst (v := 2) hx hb dX8_decimal_187 (by decide) ?_
                        refine lv_iload_n hx hb dX8_decimal_188 rfl (lv_at hl 4 rfl) ?_
                        refine lv_imul hx hb dX8_decimal_189 ?_
                        refine lv_iconst (v := 1) hx hb dX8_decimal_190 (by decide) ?_
                        refine lv_isub hx hb dX8_decimal_191 ?_
                        refine lv_istore (lv' := [(7, .int (((2 : Int32) * p3) - (1 : Int32))), (6, .int 0), (0, .ref a_this), (1, .int p1), (2, .int p2), (3, .int p3), (4, .int p4), (5, .int p5)]) hx hb dX8_decimal_192 hl (by decide) rfl (fun ls hl => ?_)
                        have L194 : ∀ (fuel : Nat) (o_this_L194 : Int32 × Int32 × Int32 × Int32 × Bool × Bool × Int32 × Int32 × Int32 × Int32 × Bool × Bool × Bool × Int32 × Int32 × Int32 × Int32 × Int32 × Int32 × Int32 × Int32 × Int32 × Int32 × Int32 × Int32) (r_this_one_L194 : Nat → Int32) (x7_194 : Int32) (x6_194 : Bool) (H : Heap) (locs : List Loc) (ls : Array Slot), ((40 : Int32).toInt - (x7_194 : Int32).toInt).toNat < fuel → va_P D vwCl [(a_this, oX8 a_this_bytes a_this_keys a_this_reg a_this_card a_this_filled a_this_taken a_this_line a_this_one a_this_two o_this_L194), (a_this_bytes, .inl (k_this_bytes, 2048, .inl r_this_bytes)), (a_this_keys, .inl (k_this_keys, 8, .inl r_this_keys)), (a_this_one, .inl (k_this_one, 40, .inl r_this_one_L194)), (a_this_two, .inl (k_this_two, 40, .inl r_this_two_L112))] H → va_D A [(a_this, oX8 a_this_bytes a_this_keys a_this_reg a_this_card a_this_filled a_this_taken a_this_line a_this_one a_this_two o_this_L194), (a_this_bytes, .inl (k_this_bytes, 2048, .inl r_this_bytes)), (a_this_keys, .inl (k_this_keys, 8, .inl r_this_keys)), (a_this_one, .inl (k_this_one, 40, .inl r_this_one_L194)), (a_this_two, .inl (k_this_two, 40, .inl r_this_two_L112))] → va_S A s.heap H locs → lv_has ls 8 [(7, .int x7_194), (6, .int (bI x6_194)), (0, .ref a_this), (1, .int p1), (2, .int p2), (3, .int p3), (4, .int p4), (5, .int p5)] → f_X8_decimal_L194 r_this_bytes p2 p3 r_this_two_L112 fuel o_this_L194 r_this_one_L194 x7_194 x6_194 = F → s_X8_decimal_L194 r_this_bytes p2 p3 fuel o_this_L194 r_this_one_L194 x7_194 x6_194 → W p l e ({ frames := 2, cells := 0, slots := 0, locals := 51 } : Room) s m ([.ref a_this, .int p1, .int p2, .int p3, .int p4, .int p5] : List Value).toArray below meth c H locs 0 0 Q (F0 m 194 ls []) := by
                          intro fuel
                          induction fuel with
                          | zero => intro o_this_L194 r_this_one_L194 x7_194 x6_194 H locs ls hm; exact absurd hm (Nat.not_lt_zero _)
                          | succ fuel ih =>
                            intro o_this_L194 r_this_one_L194 x7_194 x6_194 H locs ls hm  hP hD hS hl hF hs
                            rw [f_X8_decimal_L194] at hF
                            rw [s_X8_decimal_L194] at hs
                            skip
                            refine lv_iload hx hb dX8_decimal_194 (lv_at hl 0 rfl) ?_
                            refine lv_bipush (v := 40) hx hb dX8_decimal_196 (by decide) ?_
                            refine lv_icmp_ge (tgt := 229) hx hb dX8_decimal_198 (by decide) (fun c_28 => ?_) (fun c_28 => ?_)
                            · skip
                              rw [if_pos c_28] at hF
                              rw [if_pos c_28] at hs
                              refine lv_aload_n hx hb dX8_decimal_229 rfl (lv_at hl 2 rfl) ?_
                              refine lv_iload_n hx hb dX8_decimal_230 rfl (lv_at hl 4 rfl) ?_
                              refine lv_iload_n hx hb dX8_decimal_231 rfl (lv_at hl 5 rfl) ?_
                              have hi_29 := hs
                              refine q_Vv (rest := []) (c_X8_store l D a_this a_this_bytes a_this_one a_this_keys a_this_reg a_this_card a_this_filled a_this_taken a_this_line a_this_two k_this_bytes k_this_one o_this_L194 r_this_bytes r_this_one_L194 p2 p3 hi_29) cv_X8_store hx hb hml hown ht hN hK hA hP hD hS hl.1 (km_X8_177) ⟨Nat.le_of_ble_eq_true rfl, Nat.le_of_ble_eq_true rfl⟩ rfl rfl [0, 1, 3] (by decide) rfl [0, 2] rfl (fun _ => rfl) (ci := 8) rfl rfl rfl rfl rfl (Nat.le_of_ble_eq_true rfl) dX8_decimal_232 ⟨Nat.zero_le _, Nat.zero_le _⟩ (fun w_30 H locs hw hP hD hS => ?_)
                              have hP : va_P D vwCl [(a_this, oX8 a_this_bytes a_this_keys a_this_reg a_this_card a_this_filled a_this_taken a_this_line a_this_one a_this_two o_this_L194), (a_this_bytes, .inl (k_this_bytes, 2048, .inl w_30)), (a_this_keys, .inl (k_this_keys, 8, .inl r_this_keys)), (a_this_one, .inl (k_this_one, 40, .inl r_this_one_L194)), (a_this_two, .inl (k_this_two, 40, .inl r_this_two_L112))] H := hP
                              have hD : va_D A [(a_this, oX8 a_this_bytes a_this_keys a_this_reg a_this_card a_this_filled a_this_taken a_this_line a_this_one a_this_two o_this_L194), (a_this_bytes, .inl (k_this_bytes, 2048, .inl w_30)), (a_this_keys, .inl (k_this_keys, 8, .inl r_this_keys)), (a_this_one, .inl (k_this_one, 40, .inl r_this_one_L194)), (a_this_two, .inl (k_this_two, 40, .inl r_this_two_L112))] := hD
                              rw [q_let_of hw] at hF
                              refine lv_iload hx hb dX8_decimal_235 (lv_at hl 1 rfl) ?_
                              refine lv_if_eq (tgt := 268) hx hb dX8_decimal_237 (by decide) (fun c_31 => ?_) (fun c_31 => ?_)
                              · have c_31 : ¬ x6_194 = true := by rw [(bI_eq0 _).mp c_31]; decide
                                rw [if_neg c_31] at hF
                                exact hQ (o_this_L194, w_30, r_this_one_L194, r_this_two_L112) _ _ _ _ dX8_decimal_268 hF.symm hP hD hS
                              · have c_31 := (bI_ne0 _).mp c_31
                                rw [if_pos c_31] at hF
                                refine lv_aload_n hx hb dX8_decimal_240 rfl (lv_at hl 2 rfl) ?_
                                refine lv_iconst (v := 3) hx hb dX8_decimal_241 (by decide) ?_
                                refine pf_X8_52 (x := 3) hx hb hown ht hK hP hD hS 0 rfl (Nat.le_of_ble_eq_true rfl) dX8_decimal_242 (fun H locs hP hD hS => ?_)
                                have hP : va_P D vwCl [(a_this, oX8 a_this_bytes a_this_keys a_this_reg a_this_card a_this_filled a_this_taken a_this_line a_this_one a_this_two (o_this_L194.1, o_this_L194.2.1, 3, o_this_L194.2.2.2.1, o_this_L194.2.2.2.2.1, o_this_L194.2.2.2.2.2.1, o_this_L194.2.2.2.2.2.2.1, o_this_L194.2.2.2.2.2.2.2.1, o_this_L194.2.2.2.2.2.2.2.2.1, o_this_L194.2.2.2.2.2.2.2.2.2.1, o_this_L194.2.2.2.2.2.2.2.2.2.2.1, o_this_L194.2.2.2.2.2.2.2.2.2.2.2.1, o_this_L194.2.2.2.2.2.2.2.2.2.2.2.2.1, o_this_L194.2.2.2.2.2.2.2.2.2.2.2.2.2.1, o_this_L194.2.2.2.2.2.2.2.2.2.2.2.2.2.2.1, o_this_L194.2.2.2.2.2.2.2.2.2.2.2.2.2.2.2.1, o_this_L194.2.2.2.2.2.2.2.2.2.2.2.2.2.2.2.2.1, o_this_L194.2.2.2.2.2.2.2.2.2.2.2.2.2.2.2.2.2.1, o_this_L194.2.2.2.2.2.2.2.2.2.2.2.2.2.2.2.2.2.2.1, o_this_L194.2.2.2.2.2.2.2.2.2.2.2.2.2.2.2.2.2.2.2.1, o_this_L194.2.2.2.2.2.2.2.2.2.2.2.2.2.2.2.2.2.2.2.2.1, o_this_L194.2.2.2.2.2.2.2.2.2.2.2.2.2.2.2.2.2.2.2.2.2.1, o_this_L194.2.2.2.2.2.2.2.2.2.2.2.2.2.2.2.2.2.2.2.2.2.2.1, o_this_L194.2.2.2.2.2.2.2.2.2.2.2.2.2.2.2.2.2.2.2.2.2.2.2.1, o_this_L194.2.2.2.2.2.2.2.2.2.2.2.2.2.2.2.2.2.2.2.2.2.2.2.2)), (a_this_bytes, .inl (k_this_bytes, 2048, .inl w_30)), (a_this_keys, .inl (k_this_keys, 8, .inl r_this_keys)), (a_this_one, .inl (k_this_one, 40, .inl r_this_one_L194)), (a_this_two, .inl (k_this_two, 40, .inl r_this_two_L112))] H := hP
                                have hD : va_D A [(a_this, oX8 a_this_bytes a_this_keys a_this_reg a_this_card a_this_filled a_this_taken a_this_line a_this_one a_this_two (o_this_L194.1, o_this_L194.2.1, 3, o_this_L194.2.2.2.1, o_this_L194.2.2.2.2.1, o_this_L194.2.2.2.2.2.1, o_this_L194.2.2.2.2.2.2.1, o_this_L194.2.2.2.2.2.2.2.1, o_this_L194.2.2.2.2.2.2.2.2.1, o_this_L194.2.2.2.2.2.2.2.2.2.1, o_this_L194.2.2.2.2.2.2.2.2.2.2.1, o_this_L194.2.2.2.2.2.2.2.2.2.2.2.1, o_this_L194.2.2.2.2.2.2.2.2.2.2.2.2.1, o_this_L194.2.2.2.2.2.2.2.2.2.2.2.2.2.1, o_this_L194.2.2.2.2.2.2.2.2.2.2.2.2.2.2.1, o_this_L194.2.2.2.2.2.2.2.2.2.2.2.2.2.2.2.1, o_this_L194.2.2.2.2.2.2.2.2.2.2.2.2.2.2.2.2.1, o_this_L194.2.2.2.2.2.2.2.2.2.2.2.2.2.2.2.2.2.1, o_this_L194.2.2.2.2.2.2.2.2.2.2.2.2.2.2.2.2.2.2.1, o_this_L194.2.2.2.2.2.2.2.2.2.2.2.2.2.2.2.2.2.2.2.1, o_this_L194.2.2.2.2.2.2.2.2.2.2.2.2.2.2.2.2.2.2.2.2.1, o_this_L194.2.2.2.2.2.2.2.2.2.2.2.2.2.2.2.2.2.2.2.2.2.1, o_this_L194.2.2.2.2.2.2.2.2.2.2.2.2.2.2.2.2.2.2.2.2.2.2.1, o_this_L194.2.2.2.2.2.2.2.2.2.2.2.2.2.2.2.2.2.2.2.2.2.2.2.1, o_this_L194.2.2.2.2.2.2.2.2.2.2.2.2.2.2.2.2.2.2.2.2.2.2.2.2)), (a_this_bytes, .inl (k_this_bytes, 2048, .inl w_30)), (a_this_keys, .inl (k_this_keys, 8, .inl r_this_keys)), (a_this_one, .inl (k_this_one, 40, .inl r_this_one_L194)), (a_this_two, .inl (k_this_two, 40, .inl r_this_two_L112))] := hD
                                refine lv_aload_n hx hb dX8_decimal_245 rfl (lv_at hl 2 rfl) ?_
                                refine lv_aload_n hx hb dX8_decimal_246 rfl (lv_at hl 2 rfl) ?_
                                refine gf_X8_49 (v := .int o_this_L194.1) hx hb hown ht hK hP 0 rfl rfl dX8_decimal_247 ?_
                                refine lv_bipush (v := 16) hx hb dX8_decimal_250 (by decide) ?_
                                refine lv_idiv hx hb dX8_decimal_252 (by decide) ?_
                                refine lv_iconst (v := 2) hx hb dX8_decimal_253 (by decide) ?_
                                refine lv_irem hx hb dX8_decimal_254 (by decide) ?_
                                refine lv_iconst (v := 1) hx hb dX8_decimal_255 (by decide) ?_
                                refine lv_icmp_ne (tgt := 264) hx hb dX8_decimal_256 (by decide) (fun c_32 => ?_) (fun c_32 => ?_)
                                · skip
                                  rw [if_neg c_32] at hF
                                  refine lv_iconst (v := 0) hx hb dX8_decimal_264 (by decide) ?_
                                  refine pf_X8_86 (x := 0) hx hb hown ht hK hP hD hS 0 rfl (Nat.le_of_ble_eq_true rfl) dX8_decimal_265 (fun H locs hP hD hS => ?_)
                                  have hP : va_P D vwCl [(a_this, oX8 a_this_bytes a_this_keys a_this_reg a_this_card a_this_filled a_this_taken a_this_line a_this_one a_this_two (o_this_L194.1, o_this_L194.2.1, 3, o_this_L194.2.2.2.1, o_this_L194.2.2.2.2.1, o_this_L194.2.2.2.2.2.1, o_this_L194.2.2.2.2.2.2.1, o_this_L194.2.2.2.2.2.2.2.1, o_this_L194.2.2.2.2.2.2.2.2.1, 0, o_this_L194.2.2.2.2.2.2.2.2.2.2.1, o_this_L194.2.2.2.2.2.2.2.2.2.2.2.1, o_this_L194.2.2.2.2.2.2.2.2.2.2.2.2.1, o_this_L194.2.2.2.2.2.2.2.2.2.2.2.2.2.1, o_this_L194.2.2.2.2.2.2.2.2.2.2.2.2.2.2.1, o_this_L194.2.2.2.2.2.2.2.2.2.2.2.2.2.2.2.1, o_this_L194.2.2.2.2.2.2.2.2.2.2.2.2.2.2.2.2.1, o_this_L194.2.2.2.2.2.2.2.2.2.2.2.2.2.2.2.2.2.1, o_this_L194.2.2.2.2.2.2.2.2.2.2.2.2.2.2.2.2.2.2.1, o_this_L194.2.2.2.2.2.2.2.2.2.2.2.2.2.2.2.2.2.2.2.1, o_this_L194.2.2.2.2.2.2.2.2.2.2.2.2.2.2.2.2.2.2.2.2.1, o_this_L194.2.2.2.2.2.2.2.2.2.2.2.2.2.2.2.2.2.2.2.2.2.1, o_this_L194.2.2.2.2.2.2.2.2.2.2.2.2.2.2.2.2.2.2.2.2.2.2.1, o_this_L194.2.2.2.2.2.2.2.2.2.2.2.2.2.2.2.2.2.2.2.2.2.2.2.1, o_this_L194.2.2.2.2.2.2.2.2.2.2.2.2.2.2.2.2.2.2.2.2.2.2.2.2)), (a_this_bytes, .inl (k_this_bytes, 2048, .inl w_30)), (a_this_keys, .inl (k_this_keys, 8, .inl r_this_keys)), (a_this_one, .inl (k_this_one, 40, .inl r_this_one_L194)), (a_this_two, .inl (k_this_two, 40, .inl r_this_two_L112))] H := hP
                                  have hD : va_D A [(a_this, oX8 a_this_bytes a_this_keys a_this_reg a_this_card a_this_filled a_this_taken a_this_line a_this_one a_this_two (o_this_L194.1, o_this_L194.2.1, 3, o_this_L194.2.2.2.1, o_this_L194.2.2.2.2.1, o_this_L194.2.2.2.2.2.1, o_this_L194.2.2.2.2.2.2.1, o_this_L194.2.2.2.2.2.2.2.1, o_this_L194.2.2.2.2.2.2.2.2.1, 0, o_this_L194.2.2.2.2.2.2.2.2.2.2.1, o_this_L194.2.2.2.2.2.2.2.2.2.2.2.1, o_this_L194.2.2.2.2.2.2.2.2.2.2.2.2.1, o_this_L194.2.2.2.2.2.2.2.2.2.2.2.2.2.1, o_this_L194.2.2.2.2.2.2.2.2.2.2.2.2.2.2.1, o_this_L194.2.2.2.2.2.2.2.2.2.2.2.2.2.2.2.1, o_this_L194.2.2.2.2.2.2.2.2.2.2.2.2.2.2.2.2.1, o_this_L194.2.2.2.2.2.2.2.2.2.2.2.2.2.2.2.2.2.1, o_this_L194.2.2.2.2.2.2.2.2.2.2.2.2.2.2.2.2.2.2.1, o_this_L194.2.2.2.2.2.2.2.2.2.2.2.2.2.2.2.2.2.2.2.1, o_this_L194.2.2.2.2.2.2.2.2.2.2.2.2.2.2.2.2.2.2.2.2.1, o_this_L194.2.2.2.2.2.2.2.2.2.2.2.2.2.2.2.2.2.2.2.2.2.1, o_this_L194.2.2.2.2.2.2.2.2.2.2.2.2.2.2.2.2.2.2.2.2.2.2.1, o_this_L194.2.2.2.2.2.2.2.2.2.2.2.2.2.2.2.2.2.2.2.2.2.2.2.1, o_this_L194.2.2.2.2.2.2.2.2.2.2.2.2.2.2.2.2.2.2.2.2.2.2.2.2)), (a_this_bytes, .inl (k_this_bytes, 2048, .inl w_30)), (a_this_keys, .inl (k_this_keys, 8, .inl r_this_keys)), (a_this_one, .inl (k_this_one, 40, .inl r_this_one_L194)), (a_this_two, .inl (k_this_two, 40, .inl r_this_two_L112))] := hD
                                  exact hQ ((o_this_L194.1, o_this_L194.2.1, 3, o_this_L194.2.2.2.1, o_this_L194.2.2.2.2.1, o_this_L194.2.2.2.2.2.1, o_this_L194.2.2.2.2.2.2.1, o_this_L194.2.2.2.2.2.2.2.1, o_this_L194.2.2.2.2.2.2.2.2.1, 0, o_this_L194.2.2.2.2.2.2.2.2.2.2.1, o_this_L194.2.2.2.2.2.2.2.2.2.2.2.1, o_this_L194.2.2.2.2.2.2.2.2.2.2.2.2.1, o_this_L194.2.2.2.2.2.2.2.2.2.2.2.2.2.1, o_this_L194.2.2.2.2.2.2.2.2.2.2.2.2.2.2.1, o_this_L194.2.2.2.2.2.2.2.2.2.2.2.2.2.2.2.1, o_this_L194.2.2.2.2.2.2.2.2.2.2.2.2.2.2.2.2.1, o_this_L194.2.2.2.2.2.2.2.2.2.2.2.2.2.2.2.2.2.1, o_this_L194.2.2.2.2.2.2.2.2.2.2.2.2.2.2.2.2.2.2.1, o_this_L194.2.2.2.2.2.2.2.2.2.2.2.2.2.2.2.2.2.2.2.1, o_this_L194.2.2.2.2.2.2.2.2.2.2.2.2.2.2.2.2.2.2.2.2.1, o_this_L194.2.2.2.2.2.2.2.2.2.2.2.2.2.2.2.2.2.2.2.2.2.1, o_this_L194.2.2.2.2.2.2.2.2.2.2.2.2.2.2.2.2.2.2.2.2.2.2.1, o_this_L194.2.2.2.2.2.2.2.2.2.2.2.2.2.2.2.2.2.2.2.2.2.2.2.1, o_this_L194.2.2.2.2.2.2.2.2.2.2.2.2.2.2.2.2.2.2.2.2.2.2.2.2), w_30, r_this_one_L194, r_this_two_L112) _ _ _ _ dX8_decimal_268 hF.symm hP hD hS
                                · skip
                                  rw [if_pos c_32] at hF
                                  refine lv_bipush (v := 10) hx hb dX8_decimal_259 (by decide) ?_
                                  refine lv_goto (tgt := 265) hx hb dX8_decimal_261 (by decide) ?_
                                  refine pf_X8_86 (x := 10) hx hb hown ht hK hP hD hS 0 rfl (Nat.le_of_ble_eq_true rfl) dX8_decimal_265 (fun H locs hP hD hS => ?_)
                                  have hP : va_P D vwCl [(a_this, oX8 a_this_bytes a_this_keys a_this_reg a_this_card a_this_filled a_this_taken a_this_line a_this_one a_this_two (o_this_L194.1, o_this_L194.2.1, 3, o_this_L194.2.2.2.1, o_this_L194.2.2.2.2.1, o_this_L194.2.2.2.2.2.1, o_this_L194.2.2.2.2.2.2.1, o_this_L194.2.2.2.2.2.2.2.1, o_this_L194.2.2.2.2.2.2.2.2.1, 10, o_this_L194.2.2.2.2.2.2.2.2.2.2.1, o_this_L194.2.2.2.2.2.2.2.2.2.2.2.1, o_this_L194.2.2.2.2.2.2.2.2.2.2.2.2.1, o_this_L194.2.2.2.2.2.2.2.2.2.2.2.2.2.1, o_this_L194.2.2.2.2.2.2.2.2.2.2.2.2.2.2.1, o_this_L194.2.2.2.2.2.2.2.2.2.2.2.2.2.2.2.1, o_this_L194.2.2.2.2.2.2.2.2.2.2.2.2.2.2.2.2.1, o_this_L194.2.2.2.2.2.2.2.2.2.2.2.2.2.2.2.2.2.1, o_this_L194.2.2.2.2.2.2.2.2.2.2.2.2.2.2.2.2.2.2.1, o_this_L194.2.2.2.2.2.2.2.2.2.2.2.2.2.2.2.2.2.2.2.1, o_this_L194.2.2.2.2.2.2.2.2.2.2.2.2.2.2.2.2.2.2.2.2.1, o_this_L194.2.2.2.2.2.2.2.2.2.2.2.2.2.2.2.2.2.2.2.2.2.1, o_this_L194.2.2.2.2.2.2.2.2.2.2.2.2.2.2.2.2.2.2.2.2.2.2.1, o_this_L194.2.2.2.2.2.2.2.2.2.2.2.2.2.2.2.2.2.2.2.2.2.2.2.1, o_this_L194.2.2.2.2.2.2.2.2.2.2.2.2.2.2.2.2.2.2.2.2.2.2.2.2)), (a_this_bytes, .inl (k_this_bytes, 2048, .inl w_30)), (a_this_keys, .inl (k_this_keys, 8, .inl r_this_keys)), (a_this_one, .inl (k_this_one, 40, .inl r_this_one_L194)), (a_this_two, .inl (k_this_two, 40, .inl r_this_two_L112))] H := hP
                                  have hD : va_D A [(a_this, oX8 a_this_bytes a_this_keys a_this_reg a_this_card a_this_filled a_this_taken a_this_line a_this_one a_this_two (o_this_L194.1, o_this_L194.2.1, 3, o_this_L194.2.2.2.1, o_this_L194.2.2.2.2.1, o_this_L194.2.2.2.2.2.1, o_this_L194.2.2.2.2.2.2.1, o_this_L194.2.2.2.2.2.2.2.1, o_this_L194.2.2.2.2.2.2.2.2.1, 10, o_this_L194.2.2.2.2.2.2.2.2.2.2.1, o_this_L194.2.2.2.2.2.2.2.2.2.2.2.1, o_this_L194.2.2.2.2.2.2.2.2.2.2.2.2.1, o_this_L194.2.2.2.2.2.2.2.2.2.2.2.2.2.1, o_this_L194.2.2.2.2.2.2.2.2.2.2.2.2.2.2.1, o_this_L194.2.2.2.2.2.2.2.2.2.2.2.2.2.2.2.1, o_this_L194.2.2.2.2.2.2.2.2.2.2.2.2.2.2.2.2.1, o_this_L194.2.2.2.2.2.2.2.2.2.2.2.2.2.2.2.2.2.1, o_this_L194.2.2.2.2.2.2.2.2.2.2.2.2.2.2.2.2.2.2.1, o_this_L194.2.2.2.2.2.2.2.2.2.2.2.2.2.2.2.2.2.2.2.1, o_this_L194.2.2.2.2.2.2.2.2.2.2.2.2.2.2.2.2.2.2.2.2.1, o_this_L194.2.2.2.2.2.2.2.2.2.2.2.2.2.2.2.2.2.2.2.2.2.1, o_this_L194.2.2.2.2.2.2.2.2.2.2.2.2.2.2.2.2.2.2.2.2.2.2.1, o_this_L194.2.2.2.2.2.2.2.2.2.2.2.2.2.2.2.2.2.2.2.2.2.2.2.1, o_this_L194.2.2.2.2.2.2.2.2.2.2.2.2.2.2.2.2.2.2.2.2.2.2.2.2)), (a_this_bytes, .inl (k_this_bytes, 2048, .inl w_30)), (a_this_keys, .inl (k_this_keys, 8, .inl r_this_keys)), (a_this_one, .inl (k_this_one, 40, .inl r_this_one_L194)), (a_this_two, .inl (k_this_two, 40, .inl r_this_two_L112))] := hD
                                  exact hQ ((o_this_L194.1, o_this_L194.2.1, 3, o_this_L194.2.2.2.1, o_this_L194.2.2.2.2.1, o_this_L194.2.2.2.2.2.1, o_this_L194.2.2.2.2.2.2.1, o_this_L194.2.2.2.2.2.2.2.1, o_this_L194.2.2.2.2.2.2.2.2.1, 10, o_this_L194.2.2.2.2.2.2.2.2.2.2.1, o_this_L194.2.2.2.2.2.2.2.2.2.2.2.1, o_this_L194.2.2.2.2.2.2.2.2.2.2.2.2.1, o_this_L194.2.2.2.2.2.2.2.2.2.2.2.2.2.1, o_this_L194.2.2.2.2.2.2.2.2.2.2.2.2.2.2.1, o_this_L194.2.2.2.2.2.2.2.2.2.2.2.2.2.2.2.1, o_this_L194.2.2.2.2.2.2.2.2.2.2.2.2.2.2.2.2.1, o_this_L194.2.2.2.2.2.2.2.2.2.2.2.2.2.2.2.2.2.1, o_this_L194.2.2.2.2.2.2.2.2.2.2.2.2.2.2.2.2.2.2.1, o_this_L194.2.2.2.2.2.2.2.2.2.2.2.2.2.2.2.2.2.2.2.1, o_this_L194.2.2.2.2.2.2.2.2.2.2.2.2.2.2.2.2.2.2.2.2.1, o_this_L194.2.2.2.2.2.2.2.2.2.2.2.2.2.2.2.2.2.2.2.2.2.1, o_this_L194.2.2.2.2.2.2.2.2.2.2.2.2.2.2.2.2.2.2.2.2.2.2.1, o_this_L194.2.2.2.2.2.2.2.2.2.2.2.2.2.2.2.2.2.2.2.2.2.2.2.1, o_this_L194.2.2.2.2.2.2.2.2.2.2.2.2.2.2.2.2.2.2.2.2.2.2.2.2), w_30, r_this_one_L194, r_this_two_L112) _ _ _ _ dX8_decimal_268 hF.symm hP hD hS
                            · skip
                              rw [if_neg c_28] at hF
                              rw [if_neg c_28] at hs
                              refine lv_iload hx hb dX8_decimal_201 (lv_at hl 1 rfl) ?_
                              refine lv_if_ne (tgt := 216) hx hb dX8_decimal_203 (by decide) (fun c_33 => ?_) (fun c_33 => ?_)
                              · have c_33 := (bI_ne0 _).mp c_33
                                rw [if_pos c_33] at hF
                                rw [if_pos c_33] at hs
                                refine lv_iconst (v := 1) hx hb dX8_decimal_216 (by decide) ?_
                                refine lv_goto (tgt := 221) hx hb dX8_decimal_217 (by decide) ?_
                                refine lv_istore (lv' := [(6, .int 1), (7, .int x7_194), (0, .ref a_this), (1, .int p1), (2, .int p2), (3, .int p3), (4, .int p4), (5, .int p5)]) hx hb dX8_decimal_221 hl (by decide) rfl (fun ls hl => ?_)
                                refine lv_iinc (v := (x7_194 + (1 : Int32))) (lv' := [(7, .int (x7_194 + (1 : Int32))), (6, .int 1), (0, .ref a_this), (1, .int p1), (2, .int p2), (3, .int p3), (4, .int p4), (5, .int p5)]) hx hb dX8_decimal_223 hl (k := 1) rfl rfl (by decide) rfl (fun ls hl => ?_)
                                refine lv_goto (tgt := 194) hx hb dX8_decimal_226 (by decide) ?_
                                exact ih o_this_L194 r_this_one_L194 (x7_194 + (1 : Int32)) true _ _ _ (by first | exact q_up hm c_5 | exact q_up hm c_8 | exact q_up hm c_14 | exact q_up hm c_20 | exact q_up hm hv | exact q_up hm c_22 | exact q_up hm c_26 | exact q_up hm c_28 | exact q_up hm c_33)  hP hD hS (lv_sub hl [0, 1, 2, 3, 4, 5, 6, 7] rfl) hF hs
                              · have c_33 : ¬ x6_194 = true := by rw [(bI_eq0 _).mp c_33]; decide
                                rw [if_neg c_33] at hF
                                rw [if_neg c_33] at hs
                                refine lv_aload_n hx hb dX8_decimal_206 rfl (lv_at hl 2 rfl) ?_
                                refine gf_X8_31 (v := .ref a_this_one) hx hb hown ht hK hP 0 rfl rfl dX8_decimal_207 ?_
                                refine lv_iload hx hb dX8_decimal_210 (lv_at hl 0 rfl) ?_
                                obtain ⟨hi_34, hs⟩ := hs
                                refine va_iald hx hb hK hP 3 2 rfl rfl hi_34 dX8_decimal_212 ?_
                                refine lv_if_eq (tgt := 220) hx hb dX8_decimal_213 (by decide) (fun c_35 => ?_) (fun c_35 => ?_)
                                · skip
                                  rw [if_pos c_35] at hF
                                  rw [if_pos c_35] at hs
                                  refine lv_iconst (v := 0) hx hb dX8_decimal_220 (by decide) ?_
                                  refine lv_istore (lv' := [(6, .int 0), (7, .int x7_194), (0, .ref a_this), (1, .int p1), (2, .int p2), (3, .int p3), (4, .int p4), (5, .int p5)]) hx hb dX8_decimal_221 hl (by decide) rfl (fun ls hl => ?_)
                                  refine lv_iinc (v := (x7_194 + (1 : Int32))) (lv' := [(7, .int (x7_194 + (1 : Int32))), (6, .int 0), (0, .ref a_this), (1, .int p1), (2, .int p2), (3, .int p3), (4, .int p4), (5, .int p5)]) hx hb dX8_decimal_223 hl (k := 1) rfl rfl (by decide) rfl (fun ls hl => ?_)
                                  refine lv_goto (tgt := 194) hx hb dX8_decimal_226 (by decide) ?_
                                  exact ih o_this_L194 r_this_one_L194 (x7_194 + (1 : Int32)) false _ _ _ (by first | exact q_up hm c_5 | exact q_up hm c_8 | exact q_up hm c_14 | exact q_up hm c_20 | exact q_up hm hv | exact q_up hm c_22 | exact q_up hm c_26 | exact q_up hm c_28 | exact q_up hm c_33 | exact q_up hm c_35)  hP hD hS (lv_sub hl [0, 1, 2, 3, 4, 5, 6, 7] rfl) hF hs
                                · skip
                                  rw [if_neg c_35] at hF
                                  rw [if_neg c_35] at hs
                                  refine lv_iconst (v := 1) hx hb dX8_decimal_216 (by decide) ?_
                                  refine lv_goto (tgt := 221) hx hb dX8_decimal_217 (by decide) ?_
                                  refine lv_istore (lv' := [(6, .int 1), (7, .int x7_194), (0, .ref a_this), (1, .int p1), (2, .int p2), (3, .int p3), (4, .int p4), (5, .int p5)]) hx hb dX8_decimal_221 hl (by decide) rfl (fun ls hl => ?_)
                                  refine lv_iinc (v := (x7_194 + (1 : Int32))) (lv' := [(7, .int (x7_194 + (1 : Int32))), (6, .int 1), (0, .ref a_this), (1, .int p1), (2, .int p2), (3, .int p3), (4, .int p4), (5, .int p5)]) hx hb dX8_decimal_223 hl (k := 1) rfl rfl (by decide) rfl (fun ls hl => ?_)
                                  refine lv_goto (tgt := 194) hx hb dX8_decimal_226 (by decide) ?_
                                  exact ih o_this_L194 r_this_one_L194 (x7_194 + (1 : Int32)) true _ _ _ (by first | exact q_up hm c_5 | exact q_up hm c_8 | exact q_up hm c_14 | exact q_up hm c_20 | exact q_up hm hv | exact q_up hm c_22 | exact q_up hm c_26 | exact q_up hm c_28 | exact q_up hm c_33 | exact q_up hm c_35)  hP hD hS (lv_sub hl [0, 1, 2, 3, 4, 5, 6, 7] rfl) hF hs
                        exact L194 (((40 : Int32).toInt - ((((2 : Int32) * p3) - (1 : Int32)) : Int32).toInt).toNat + 1) w_25 w_24.2 (((2 : Int32) * p3) - (1 : Int32)) false _ _ _ (Nat.lt_succ_self _)  hP hD hS (lv_sub hl [0, 1, 2, 3, 4, 5, 6, 7] rfl) hF hs
                      · skip
                        rw [if_pos c_26] at hF
                        rw [if_pos c_26] at hs
                        exact hQ (w_25, r_this_bytes, w_24.2, r_this_two_L112) _ _ _ _ dX8_decimal_183 hF.symm hP hD hS
                    · skip
                      rw [if_neg c_22] at hF
                      rw [if_neg c_22] at hs
                      refine lv_aload_n hx hb dX8_decimal_119 rfl (lv_at hl 1 rfl) ?_
                      refine gf_X8_31 (v := .ref a_this_one) hx hb hown ht hK hP 0 rfl rfl dX8_decimal_120 ?_
                      refine lv_iload hx hb dX8_decimal_123 (lv_at hl 0 rfl) ?_
                      refine lv_dup2_11 hx hb dX8_decimal_125 rfl rfl ?_
                      refine va_iald hx hb hK hP 3 2 rfl rfl (q_in hv c_22 (by decide)) dX8_decimal_126 ?_
                      refine lv_iload_n hx hb dX8_decimal_127 rfl (lv_at hl 2 rfl) ?_
                      refine lv_sipush (v := 249) hx hb dX8_decimal_128 (by decide) ?_
                      refine lv_icmp_eq (tgt := 141) hx hb dX8_decimal_131 (by decide) (fun c_36 => ?_) (fun c_36 => ?_)
                      · skip
                        rw [if_pos c_36] at hF
                        rw [if_pos c_36] at hs
                        refine lv_aload_n hx hb dX8_decimal_141 rfl (lv_at hl 1 rfl) ?_
                        refine gf_X8_34 (v := .ref a_this_two) hx hb hown ht hK hP 0 rfl rfl dX8_decimal_142 ?_
                        refine lv_iload hx hb dX8_decimal_145 (lv_at hl 0 rfl) ?_
                        refine va_iald hx hb hK hP 4 3 rfl rfl (q_in hv c_22 (by decide)) dX8_decimal_147 ?_
                        refine lv_ineg hx hb dX8_decimal_148 ?_
                        refine lv_goto (tgt := 159) hx hb dX8_decimal_149 (by decide) ?_
                        refine lv_iadd hx hb dX8_decimal_159 ?_
                        refine va_iast hx hb hK hP hD hS 3 2 rfl rfl (q_in hv c_22 (by decide)) dX8_decimal_160 (fun H locs hP hD hS => ?_)
                        have hP : va_P D vwCl [(a_this, oX8 a_this_bytes a_this_keys a_this_reg a_this_card a_this_filled a_this_taken a_this_line a_this_one a_this_two o_this_L112), (a_this_bytes, .inl (k_this_bytes, 2048, .inl r_this_bytes)), (a_this_keys, .inl (k_this_keys, 8, .inl r_this_keys)), (a_this_one, .inl (k_this_one, 40, .inl (upd r_this_one_L112 x6_112.toNatClampNeg ((r_this_one_L112 x6_112.toNatClampNeg) + (-(r_this_two_L112 x6_112.toNatClampNeg)))))), (a_this_two, .inl (k_this_two, 40, .inl r_this_two_L112))] H := hP
                        have hD : va_D A [(a_this, oX8 a_this_bytes a_this_keys a_this_reg a_this_card a_this_filled a_this_taken a_this_line a_this_one a_this_two o_this_L112), (a_this_bytes, .inl (k_this_bytes, 2048, .inl r_this_bytes)), (a_this_keys, .inl (k_this_keys, 8, .inl r_this_keys)), (a_this_one, .inl (k_this_one, 40, .inl (upd r_this_one_L112 x6_112.toNatClampNeg ((r_this_one_L112 x6_112.toNatClampNeg) + (-(r_this_two_L112 x6_112.toNatClampNeg)))))), (a_this_two, .inl (k_this_two, 40, .inl r_this_two_L112))] := hD
                        refine lv_iinc (v := (x6_112 + (1 : Int32))) (lv' := [(6, .int (x6_112 + (1 : Int32))), (0, .ref a_this), (1, .int p1), (2, .int p2), (3, .int p3), (4, .int p4), (5, .int p5)]) hx hb dX8_decimal_161 hl (k := 0) rfl rfl (by decide) rfl (fun ls hl => ?_)
                        refine lv_goto (tgt := 112) hx hb dX8_decimal_164 (by decide) ?_
                        exact ih o_this_L112 (upd r_this_one_L112 x6_112.toNatClampNeg ((r_this_one_L112 x6_112.toNatClampNeg) + (-(r_this_two_L112 x6_112.toNatClampNeg)))) r_this_two_L112 (x6_112 + (1 : Int32)) _ _ _ (by first | exact q_up hm c_5 | exact q_up hm c_8 | exact q_up hm c_14 | exact q_up hm c_20 | exact q_up hm hv | exact q_up hm c_22 | exact q_up hm c_36) (by first | exact q_upnn hv c_5 | exact q_upnn hv c_8 | exact q_upnn hv c_14 | exact q_upnn hv c_20 | exact q_upnn hv hv | exact q_upnn hv c_22 | exact q_upnn hv c_36) hP hD hS (lv_sub hl [0, 1, 2, 3, 4, 5, 6] rfl) hF hs
                      · skip
                        rw [if_neg c_36] at hF
                        rw [if_neg c_36] at hs
                        refine lv_iload_n hx hb dX8_decimal_134 rfl (lv_at hl 2 rfl) ?_
                        refine lv_sipush (v := 251) hx hb dX8_decimal_135 (by decide) ?_
                        refine lv_icmp_ne (tgt := 152) hx hb dX8_decimal_138 (by decide) (fun c_37 => ?_) (fun c_37 => ?_)
                        · skip
                          rw [if_neg c_37] at hF
                          rw [if_neg c_37] at hs
                          refine lv_aload_n hx hb dX8_decimal_152 rfl (lv_at hl 1 rfl) ?_
                          refine gf_X8_34 (v := .ref a_this_two) hx hb hown ht hK hP 0 rfl rfl dX8_decimal_153 ?_
                          refine lv_iload hx hb dX8_decimal_156 (lv_at hl 0 rfl) ?_
                          refine va_iald hx hb hK hP 4 3 rfl rfl (q_in hv c_22 (by decide)) dX8_decimal_158 ?_
                          refine lv_iadd hx hb dX8_decimal_159 ?_
                          refine va_iast hx hb hK hP hD hS 3 2 rfl rfl (q_in hv c_22 (by decide)) dX8_decimal_160 (fun H locs hP hD hS => ?_)
                          have hP : va_P D vwCl [(a_this, oX8 a_this_bytes a_this_keys a_this_reg a_this_card a_this_filled a_this_taken a_this_line a_this_one a_this_two o_this_L112), (a_this_bytes, .inl (k_this_bytes, 2048, .inl r_this_bytes)), (a_this_keys, .inl (k_this_keys, 8, .inl r_this_keys)), (a_this_one, .inl (k_this_one, 40, .inl (upd r_this_one_L112 x6_112.toNatClampNeg ((r_this_one_L112 x6_112.toNatClampNeg) + (r_this_two_L112 x6_112.toNatClampNeg))))), (a_this_two, .inl (k_this_two, 40, .inl r_this_two_L112))] H := hP
                          have hD : va_D A [(a_this, oX8 a_this_bytes a_this_keys a_this_reg a_this_card a_this_filled a_this_taken a_this_line a_this_one a_this_two o_this_L112), (a_this_bytes, .inl (k_this_bytes, 2048, .inl r_this_bytes)), (a_this_keys, .inl (k_this_keys, 8, .inl r_this_keys)), (a_this_one, .inl (k_this_one, 40, .inl (upd r_this_one_L112 x6_112.toNatClampNeg ((r_this_one_L112 x6_112.toNatClampNeg) + (r_this_two_L112 x6_112.toNatClampNeg))))), (a_this_two, .inl (k_this_two, 40, .inl r_this_two_L112))] := hD
                          refine lv_iinc (v := (x6_112 + (1 : Int32))) (lv' := [(6, .int (x6_112 + (1 : Int32))), (0, .ref a_this), (1, .int p1), (2, .int p2), (3, .int p3), (4, .int p4), (5, .int p5)]) hx hb dX8_decimal_161 hl (k := 0) rfl rfl (by decide) rfl (fun ls hl => ?_)
                          refine lv_goto (tgt := 112) hx hb dX8_decimal_164 (by decide) ?_
                          exact ih o_this_L112 (upd r_this_one_L112 x6_112.toNatClampNeg ((r_this_one_L112 x6_112.toNatClampNeg) + (r_this_two_L112 x6_112.toNatClampNeg))) r_this_two_L112 (x6_112 + (1 : Int32)) _ _ _ (by first | exact q_up hm c_5 | exact q_up hm c_8 | exact q_up hm c_14 | exact q_up hm c_20 | exact q_up hm hv | exact q_up hm c_22 | exact q_up hm c_36 | exact q_up hm c_37) (by first | exact q_upnn hv c_5 | exact q_upnn hv c_8 | exact q_upnn hv c_14 | exact q_upnn hv c_20 | exact q_upnn hv hv | exact q_upnn hv c_22 | exact q_upnn hv c_36 | exact q_upnn hv c_37) hP hD hS (lv_sub hl [0, 1, 2, 3, 4, 5, 6] rfl) hF hs
                        · skip
                          rw [if_pos c_37] at hF
                          rw [if_pos c_37] at hs
                          refine lv_aload_n hx hb dX8_decimal_141 rfl (lv_at hl 1 rfl) ?_
                          refine gf_X8_34 (v := .ref a_this_two) hx hb hown ht hK hP 0 rfl rfl dX8_decimal_142 ?_
                          refine lv_iload hx hb dX8_decimal_145 (lv_at hl 0 rfl) ?_
                          refine va_iald hx hb hK hP 4 3 rfl rfl (q_in hv c_22 (by decide)) dX8_decimal_147 ?_
                          refine lv_ineg hx hb dX8_decimal_148 ?_
                          refine lv_goto (tgt := 159) hx hb dX8_decimal_149 (by decide) ?_
                          refine lv_iadd hx hb dX8_decimal_159 ?_
                          refine va_iast hx hb hK hP hD hS 3 2 rfl rfl (q_in hv c_22 (by decide)) dX8_decimal_160 (fun H locs hP hD hS => ?_)
                          have hP : va_P D vwCl [(a_this, oX8 a_this_bytes a_this_keys a_this_reg a_this_card a_this_filled a_this_taken a_this_line a_this_one a_this_two o_this_L112), (a_this_bytes, .inl (k_this_bytes, 2048, .inl r_this_bytes)), (a_this_keys, .inl (k_this_keys, 8, .inl r_this_keys)), (a_this_one, .inl (k_this_one, 40, .inl (upd r_this_one_L112 x6_112.toNatClampNeg ((r_this_one_L112 x6_112.toNatClampNeg) + (-(r_this_two_L112 x6_112.toNatClampNeg)))))), (a_this_two, .inl (k_this_two, 40, .inl r_this_two_L112))] H := hP
                          have hD : va_D A [(a_this, oX8 a_this_bytes a_this_keys a_this_reg a_this_card a_this_filled a_this_taken a_this_line a_this_one a_this_two o_this_L112), (a_this_bytes, .inl (k_this_bytes, 2048, .inl r_this_bytes)), (a_this_keys, .inl (k_this_keys, 8, .inl r_this_keys)), (a_this_one, .inl (k_this_one, 40, .inl (upd r_this_one_L112 x6_112.toNatClampNeg ((r_this_one_L112 x6_112.toNatClampNeg) + (-(r_this_two_L112 x6_112.toNatClampNeg)))))), (a_this_two, .inl (k_this_two, 40, .inl r_this_two_L112))] := hD
                          refine lv_iinc (v := (x6_112 + (1 : Int32))) (lv' := [(6, .int (x6_112 + (1 : Int32))), (0, .ref a_this), (1, .int p1), (2, .int p2), (3, .int p3), (4, .int p4), (5, .int p5)]) hx hb dX8_decimal_161 hl (k := 0) rfl rfl (by decide) rfl (fun ls hl => ?_)
                          refine lv_goto (tgt := 112) hx hb dX8_decimal_164 (by decide) ?_
                          exact ih o_this_L112 (upd r_this_one_L112 x6_112.toNatClampNeg ((r_this_one_L112 x6_112.toNatClampNeg) + (-(r_this_two_L112 x6_112.toNatClampNeg)))) r_this_two_L112 (x6_112 + (1 : Int32)) _ _ _ (by first | exact q_up hm c_5 | exact q_up hm c_8 | exact q_up hm c_14 | exact q_up hm c_20 | exact q_up hm hv | exact q_up hm c_22 | exact q_up hm c_36 | exact q_up hm c_37) (by first | exact q_upnn hv c_5 | exact q_upnn hv c_8 | exact q_upnn hv c_14 | exact q_upnn hv c_20 | exact q_upnn hv hv | exact q_upnn hv c_22 | exact q_upnn hv c_36 | exact q_upnn hv c_37) hP hD hS (lv_sub hl [0, 1, 2, 3, 4, 5, 6] rfl) hF hs
                exact L112 (((40 : Int32).toInt - (0 : Int32).toInt).toNat + 1) w_19 w_16.2 w_10.2 0 _ _ _ (Nat.lt_succ_self _) (by decide) hP hD hS (lv_sub hl [0, 1, 2, 3, 4, 5, 6] rfl) hF hs
              · skip
                rw [if_neg c_20] at hF
                rw [if_neg c_20] at hs
                exact hQ (w_19, r_this_bytes, w_16.2, w_10.2) _ _ _ _ dX8_decimal_108 hF.symm hP hD hS
            refine lv_if_ne (tgt := 95) hx hb dX8_decimal_88 (by decide) (fun c_18 => ?_) (fun c_18 => ?_)
            · have c_18 := (bI_ne0 _).mp c_18
              rw [if_pos c_18] at hV
              refine lv_iconst (v := 0) hx hb dX8_decimal_95 (by decide) ?_
              subst hV
              exact J17 _ _ hP hD hS
            · have c_18 : ¬ w_16.1 = true := by rw [(bI_eq0 _).mp c_18]; decide
              rw [if_neg c_18] at hV
              refine lv_iconst (v := 1) hx hb dX8_decimal_91 (by decide) ?_
              refine lv_goto (tgt := 96) hx hb dX8_decimal_92 (by decide) ?_
              subst hV
              exact J17 _ _ hP hD hS
          · skip
            rw [if_pos c_14] at hF
            rw [if_pos c_14] at hs
            refine lv_aload_n hx hb dX8_decimal_69 rfl (lv_at hl 0 rfl) ?_
            refine lv_iconst (v := 0) hx hb dX8_decimal_70 (by decide) ?_
            refine q_Vv (rest := []) (c_X8_spread l D a_this a_this_one a_this_bytes a_this_keys a_this_reg a_this_card a_this_filled a_this_taken a_this_line a_this_two k_this_one w_13 r_this_one 0) cv_X8_spread hx hb hml hown ht hN hK hA hP hD hS hl.1 (km_X8_174) ⟨Nat.le_of_ble_eq_true rfl, Nat.le_of_ble_eq_true rfl⟩ rfl rfl [0, 3] (by decide) rfl [2] rfl (fun _ => rfl) (ci := 8) rfl rfl rfl rfl rfl (Nat.le_of_ble_eq_true rfl) dX8_decimal_71 ⟨Nat.zero_le _, Nat.zero_le _⟩ (fun w_38 H locs hw hP hD hS => ?_)
            have hP : va_P D vwCl [(a_this, oX8 a_this_bytes a_this_keys a_this_reg a_this_card a_this_filled a_this_taken a_this_line a_this_one a_this_two w_13), (a_this_bytes, .inl (k_this_bytes, 2048, .inl r_this_bytes)), (a_this_keys, .inl (k_this_keys, 8, .inl r_this_keys)), (a_this_one, .inl (k_this_one, 40, .inl w_38)), (a_this_two, .inl (k_this_two, 40, .inl w_10.2))] H := hP
            have hD : va_D A [(a_this, oX8 a_this_bytes a_this_keys a_this_reg a_this_card a_this_filled a_this_taken a_this_line a_this_one a_this_two w_13), (a_this_bytes, .inl (k_this_bytes, 2048, .inl r_this_bytes)), (a_this_keys, .inl (k_this_keys, 8, .inl r_this_keys)), (a_this_one, .inl (k_this_one, 40, .inl w_38)), (a_this_two, .inl (k_this_two, 40, .inl w_10.2))] := hD
            rw [q_let_of hw] at hF
            rw [q_let_of hw] at hs
            refine lv_goto (tgt := 101) hx hb dX8_decimal_74 (by decide) ?_
            refine lv_aload_n hx hb dX8_decimal_101 rfl (lv_at hl 0 rfl) ?_
            refine gf_X8_38 (v := .int w_13.2.2.2.2.2.2.2.2.1) hx hb hown ht hK hP 0 rfl rfl dX8_decimal_102 ?_
            refine lv_if_le (tgt := 109) hx hb dX8_decimal_105 (by decide) (fun c_39 => ?_) (fun c_39 => ?_)
            · skip
              rw [if_pos c_39] at hF
              rw [if_pos c_39] at hs
              refine lv_iconst (v := 0) hx hb dX8_decimal_109 (by decide) ?_
              refine lv_istore (lv' := [(6, .int 0), (0, .ref a_this), (1, .int p1), (2, .int p2), (3, .int p3), (4, .int p4), (5, .int p5)]) hx hb dX8_decimal_110 hl (by decide) rfl (fun ls hl => ?_)
              have L112 : ∀ (fuel : Nat) (o_this_L112 : Int32 × Int32 × Int32 × Int32 × Bool × Bool × Int32 × Int32 × Int32 × Int32 × Bool × Bool × Bool × Int32 × Int32 × Int32 × Int32 × Int32 × Int32 × Int32 × Int32 × Int32 × Int32 × Int32 × Int32) (r_this_one_L112 : Nat → Int32) (r_this_two_L112 : Nat → Int32) (x6_112 : Int32) (H : Heap) (locs : List Loc) (ls : Array Slot), ((40 : Int32).toInt - (x6_112 : Int32).toInt).toNat < fuel → ¬ x6_112 < 0 → va_P D vwCl [(a_this, oX8 a_this_bytes a_this_keys a_this_reg a_this_card a_this_filled a_this_taken a_this_line a_this_one a_this_two o_this_L112), (a_this_bytes, .inl (k_this_bytes, 2048, .inl r_this_bytes)), (a_this_keys, .inl (k_this_keys, 8, .inl r_this_keys)), (a_this_one, .inl (k_this_one, 40, .inl r_this_one_L112)), (a_this_two, .inl (k_this_two, 40, .inl r_this_two_L112))] H → va_D A [(a_this, oX8 a_this_bytes a_this_keys a_this_reg a_this_card a_this_filled a_this_taken a_this_line a_this_one a_this_two o_this_L112), (a_this_bytes, .inl (k_this_bytes, 2048, .inl r_this_bytes)), (a_this_keys, .inl (k_this_keys, 8, .inl r_this_keys)), (a_this_one, .inl (k_this_one, 40, .inl r_this_one_L112)), (a_this_two, .inl (k_this_two, 40, .inl r_this_two_L112))] → va_S A s.heap H locs → lv_has ls 8 [(6, .int x6_112), (0, .ref a_this), (1, .int p1), (2, .int p2), (3, .int p3), (4, .int p4), (5, .int p5)] → f_X8_decimal_L112b r_this_bytes p1 p2 p3 fuel o_this_L112 r_this_one_L112 r_this_two_L112 x6_112 = F → s_X8_decimal_L112b r_this_bytes p1 p2 p3 fuel o_this_L112 r_this_one_L112 r_this_two_L112 x6_112 → W p l e ({ frames := 2, cells := 0, slots := 0, locals := 51 } : Room) s m ([.ref a_this, .int p1, .int p2, .int p3, .int p4, .int p5] : List Value).toArray below meth c H locs 0 0 Q (F0 m 112 ls []) := by
                intro fuel
                induction fuel with
                | zero => intro o_this_L112 r_this_one_L112 r_this_two_L112 x6_112 H locs ls hm; exact absurd hm (Nat.not_lt_zero _)
                | succ fuel ih =>
                  intro o_this_L112 r_this_one_L112 r_this_two_L112 x6_112 H locs ls hm hv hP hD hS hl hF hs
                  rw [f_X8_decimal_L112b] at hF
                  rw [s_X8_decimal_L112b] at hs
                  skip
                  refine lv_iload hx hb dX8_decimal_112 (lv_at hl 0 rfl) ?_
                  refine lv_bipush (v := 40) hx hb dX8_decimal_114 (by decide) ?_
                  refine lv_icmp_ge (tgt := 167) hx hb dX8_decimal_116 (by decide) (fun c_41 => ?_) (fun c_41 => ?_)
                  · skip
                    rw [if_pos c_41] at hF
                    rw [if_pos c_41] at hs
                    refine lv_aload_n hx hb dX8_decimal_167 rfl (lv_at hl 1 rfl) ?_
                    refine lv_aload_n hx hb dX8_decimal_168 rfl (lv_at hl 1 rfl) ?_
                    obtain ⟨hi_42, hs⟩ := hs
                    refine q_Vi (rest := [.ref a_this]) (c_X8_settle l D a_this a_this_one a_this_bytes a_this_keys a_this_reg a_this_card a_this_filled a_this_taken a_this_line a_this_two k_this_one o_this_L112 r_this_one_L112 hi_42) cv_X8_settle hx hb hml hown ht hN hK hA hP hD hS hl.1 (km_X8_207) ⟨Nat.le_of_ble_eq_true rfl, Nat.le_of_ble_eq_true rfl⟩ rfl rfl [0, 3] (by decide) rfl [2] rfl (fun _ => rfl) (ci := 8) rfl rfl rfl rfl rfl (Nat.le_of_ble_eq_true rfl) dX8_decimal_169 ⟨Nat.zero_le _, Nat.zero_le _⟩ (fun r w_43 H locs hw hP hD hS => ?_)
                    obtain ⟨hw, hr⟩ := hw
                    subst hr
                    have hP : va_P D vwCl [(a_this, oX8 a_this_bytes a_this_keys a_this_reg a_this_card a_this_filled a_this_taken a_this_line a_this_one a_this_two o_this_L112), (a_this_bytes, .inl (k_this_bytes, 2048, .inl r_this_bytes)), (a_this_keys, .inl (k_this_keys, 8, .inl r_this_keys)), (a_this_one, .inl (k_this_one, 40, .inl w_43.2)), (a_this_two, .inl (k_this_two, 40, .inl r_this_two_L112))] H := hP
                    have hD : va_D A [(a_this, oX8 a_this_bytes a_this_keys a_this_reg a_this_card a_this_filled a_this_taken a_this_line a_this_one a_this_two o_this_L112), (a_this_bytes, .inl (k_this_bytes, 2048, .inl r_this_bytes)), (a_this_keys, .inl (k_this_keys, 8, .inl r_this_keys)), (a_this_one, .inl (k_this_one, 40, .inl w_43.2)), (a_this_two, .inl (k_this_two, 40, .inl r_this_two_L112))] := hD
                    rw [q_let_of hw] at hF
                    rw [q_let_of hw] at hs
                    refine lv_i2l hx hb dX8_decimal_172 rfl ?_
                    refine q_Vv (rest := []) (c_X8_sign l D a_this a_this_bytes a_this_keys a_this_reg a_this_card a_this_filled a_this_taken a_this_line a_this_one a_this_two o_this_L112 w_43.1.toInt64) cv_X8_sign hx hb hml hown ht hN hK hA hP hD hS hl.1 (km_X8_120) ⟨Nat.le_of_ble_eq_true rfl, Nat.le_of_ble_eq_true rfl⟩ rfl rfl [0] (by decide) rfl [] rfl (fun _ => rfl) (ci := 8) rfl rfl rfl rfl rfl (Nat.le_of_ble_eq_true rfl) dX8_decimal_173 ⟨Nat.zero_le _, Nat.zero_le _⟩ (fun w_44 H locs hw hP hD hS => ?_)
                    have hP : va_P D vwCl [(a_this, oX8 a_this_bytes a_this_keys a_this_reg a_this_card a_this_filled a_this_taken a_this_line a_this_one a_this_two w_44), (a_this_bytes, .inl (k_this_bytes, 2048, .inl r_this_bytes)), (a_this_keys, .inl (k_this_keys, 8, .inl r_this_keys)), (a_this_one, .inl (k_this_one, 40, .inl w_43.2)), (a_this_two, .inl (k_this_two, 40, .inl r_this_two_L112))] H := hP
                    have hD : va_D A [(a_this, oX8 a_this_bytes a_this_keys a_this_reg a_this_card a_this_filled a_this_taken a_this_line a_this_one a_this_two w_44), (a_this_bytes, .inl (k_this_bytes, 2048, .inl r_this_bytes)), (a_this_keys, .inl (k_this_keys, 8, .inl r_this_keys)), (a_this_one, .inl (k_this_one, 40, .inl w_43.2)), (a_this_two, .inl (k_this_two, 40, .inl r_this_two_L112))] := hD
                    rw [q_let_of hw] at hF
                    rw [q_let_of hw] at hs
                    refine lv_iload_n hx hb dX8_decimal_176 rfl (lv_at hl 2 rfl) ?_
                    refine lv_sipush (v := 249) hx hb dX8_decimal_177 (by decide) ?_
                    refine lv_icmp_ne (tgt := 184) hx hb dX8_decimal_180 (by decide) (fun c_45 => ?_) (fun c_45 => ?_)
                    · skip
                      rw [if_neg c_45] at hF
                      rw [if_neg c_45] at hs
                      refine lv_iconst (v := 0) hx hb dX8_decimal_184 (by decide) ?_
                      refine lv_istore (lv' := [(6, .int 0), (0, .ref a_this), (1, .int p1), (2, .int p2), (3, .int p3), (4, .int p4), (5, .int p5)]) hx hb dX8_decimal_185 hl (by decide) rfl (fun ls hl => ?_)
                      refine lv_iconst (v := 2) hx hb dX8_decimal_187 (by decide) ?_
                      refine lv_iload_n hx hb dX8_decimal_188 rfl (lv_at hl 4 rfl) ?_
                      refine lv_imul hx hb dX8_decimal_189 ?_
                      refine lv_iconst (v := 1) hx hb dX8_decimal_190 (by decide) ?_
                      refine lv_isub hx hb dX8_decimal_191 ?_
                      refine lv_istore (lv' := [(7, .int (((2 : Int32) * p3) - (1 : Int32))), (6, .int 0), (0, .ref a_this), (1, .int p1), (2, .int p2), (3, .int p3), (4, .int p4), (5, .int p5)]) hx hb dX8_decimal_192 hl (by decide) rfl (fun ls hl => ?_)
                      have L194 : ∀ (fuel : Nat) (o_this_L194 : Int32 × Int32 × Int32 × Int32 × Bool × Bool × Int32 × Int32 × Int32 × Int32 × Bool × Bool × Bool × Int32 × Int32 × Int32 × Int32 × Int32 × Int32 × Int32 × Int32 × Int32 × Int32 × Int32 × Int32) (r_this_one_L194 : Nat → Int32) (x7_194 : Int32) (x6_194 : Bool) (H : Heap) (locs : List Loc) (ls : Array Slot), ((40 : Int32).toInt - (x7_194 : Int32).toInt).toNat < fuel → va_P D vwCl [(a_this, oX8 a_this_bytes a_this_keys a_this_reg a_this_card a_this_filled a_this_taken a_this_line a_this_one a_this_two o_this_L194), (a_this_bytes, .inl (k_this_bytes, 2048, .inl r_this_bytes)), (a_this_keys, .inl (k_this_keys, 8, .inl r_this_keys)), (a_this_one, .inl (k_this_one, 40, .inl r_this_one_L194)), (a_this_two, .inl (k_this_two, 40, .inl r_this_two_L112))] H → va_D A [(a_this, oX8 a_this_bytes a_this_keys a_this_reg a_this_card a_this_filled a_this_taken a_this_line a_this_one a_this_two o_this_L194), (a_this_bytes, .inl (k_this_bytes, 2048, .inl r_this_bytes)), (a_this_keys, .inl (k_this_keys, 8, .inl r_this_keys)), (a_this_one, .inl (k_this_one, 40, .inl r_this_one_L194)), (a_this_two, .inl (k_this_two, 40, .inl r_this_two_L112))] → va_S A s.heap H locs → lv_has ls 8 [(7, .int x7_194), (6, .int (bI x6_194)), (0, .ref a_this), (1, .int p1), (2, .int p2), (3, .int p3), (4, .int p4), (5, .int p5)] → f_X8_decimal_L194b r_this_bytes p2 p3 r_this_two_L112 fuel o_this_L194 r_this_one_L194 x7_194 x6_194 = F → s_X8_decimal_L194b r_this_bytes p2 p3 fuel o_this_L194 r_this_one_L194 x7_194 x6_194 → W p l e ({ frames := 2, cells := 0, slots := 0, locals := 51 } : Room) s m ([.ref a_this, .int p1, .int p2, .int p3, .int p4, .int p5] : List Value).toArray below meth c H locs 0 0 Q (F0 m 194 ls []) := by
                        intro fuel
                        induction fuel with
                        | zero => intro o_this_L194 r_this_one_L194 x7_194 x6_194 H locs ls hm; exact absurd hm (Nat.not_lt_zero _)
                        | succ fuel ih =>
                          intro o_this_L194 r_this_one_L194 x7_194 x6_194 H locs ls hm  hP hD hS hl hF hs
                          rw [f_X8_decimal_L194b] at hF
                          rw [s_X8_decimal_L194b] at hs
                          skip
                          refine lv_iload hx hb dX8_decimal_194 (lv_at hl 0 rfl) ?_
                          refine lv_bipush (v := 40) hx hb dX8_decimal_196 (by decide) ?_
                          refine lv_icmp_ge (tgt := 229) hx hb dX8_decimal_198 (by decide) (fun c_47 => ?_) (fun c_47 => ?_)
                          · skip
                            rw [if_pos c_47] at hF
                            rw [if_pos c_47] at hs
                            refine lv_aload_n hx hb dX8_decimal_229 rfl (lv_at hl 2 rfl) ?_
                            refine lv_iload_n hx hb dX8_decimal_230 rfl (lv_at hl 4 rfl) ?_
                            refine lv_iload_n hx hb dX8_decimal_231 rfl (lv_at hl 5 rfl) ?_
                            have hi_48 := hs
                            refine q_Vv (rest := []) (c_X8_store l D a_this a_this_bytes a_this_one a_this_keys a_this_reg a_this_card a_this_filled a_this_taken a_this_line a_this_two k_this_bytes k_this_one o_this_L194 r_this_bytes r_this_one_L194 p2 p3 hi_48) cv_X8_store hx hb hml hown ht hN hK hA hP hD hS hl.1 (km_X8_177) ⟨Nat.le_of_ble_eq_true rfl, Nat.le_of_ble_eq_true rfl⟩ rfl rfl [0, 1, 3] (by decide) rfl [0, 2] rfl (fun _ => rfl) (ci := 8) rfl rfl rfl rfl rfl (Nat.le_of_ble_eq_true rfl) dX8_decimal_232 ⟨Nat.zero_le _, Nat.zero_le _⟩ (fun w_49 H locs hw hP hD hS => ?_)
                            have hP : va_P D vwCl [(a_this, oX8 a_this_bytes a_this_keys a_this_reg a_this_card a_this_filled a_this_taken a_this_line a_this_one a_this_two o_this_L194), (a_this_bytes, .inl (k_this_bytes, 2048, .inl w_49)), (a_this_keys, .inl (k_this_keys, 8, .inl r_this_keys)), (a_this_one, .inl (k_this_one, 40, .inl r_this_one_L194)), (a_this_two, .inl (k_this_two, 40, .inl r_this_two_L112))] H := hP
                            have hD : va_D A [(a_this, oX8 a_this_bytes a_this_keys a_this_reg a_this_card a_this_filled a_this_taken a_this_line a_this_one a_this_two o_this_L194), (a_this_bytes, .inl (k_this_bytes, 2048, .inl w_49)), (a_this_keys, .inl (k_this_keys, 8, .inl r_this_keys)), (a_this_one, .inl (k_this_one, 40, .inl r_this_one_L194)), (a_this_two, .inl (k_this_two, 40, .inl r_this_two_L112))] := hD
                            rw [q_let_of hw] at hF
                            refine lv_iload hx hb dX8_decimal_235 (lv_at hl 1 rfl) ?_
                            refine lv_if_eq (tgt := 268) hx hb dX8_decimal_237 (by decide) (fun c_50 => ?_) (fun c_50 => ?_)
                            · have c_50 : ¬ x6_194 = true := by rw [(bI_eq0 _).mp c_50]; decide
                              rw [if_neg c_50] at hF
                              exact hQ (o_this_L194, w_49, r_this_one_L194, r_this_two_L112) _ _ _ _ dX8_decimal_268 hF.symm hP hD hS
                            · have c_50 := (bI_ne0 _).mp c_50
                              rw [if_pos c_50] at hF
                              refine lv_aload_n hx hb dX8_decimal_240 rfl (lv_at hl 2 rfl) ?_
                              refine lv_iconst (v := 3) hx hb dX8_decimal_241 (by decide) ?_
                              refine pf_X8_52 (x := 3) hx hb hown ht hK hP hD hS 0 rfl (Nat.le_of_ble_eq_true rfl) dX8_decimal_242 (fun H locs hP hD hS => ?_)
                              have hP : va_P D vwCl [(a_this, oX8 a_this_bytes a_this_keys a_this_reg a_this_card a_this_filled a_this_taken a_this_line a_this_one a_this_two (o_this_L194.1, o_this_L194.2.1, 3, o_this_L194.2.2.2.1, o_this_L194.2.2.2.2.1, o_this_L194.2.2.2.2.2.1, o_this_L194.2.2.2.2.2.2.1, o_this_L194.2.2.2.2.2.2.2.1, o_this_L194.2.2.2.2.2.2.2.2.1, o_this_L194.2.2.2.2.2.2.2.2.2.1, o_this_L194.2.2.2.2.2.2.2.2.2.2.1, o_this_L194.2.2.2.2.2.2.2.2.2.2.2.1, o_this_L194.2.2.2.2.2.2.2.2.2.2.2.2.1, o_this_L194.2.2.2.2.2.2.2.2.2.2.2.2.2.1, o_this_L194.2.2.2.2.2.2.2.2.2.2.2.2.2.2.1, o_this_L194.2.2.2.2.2.2.2.2.2.2.2.2.2.2.2.1, o_this_L194.2.2.2.2.2.2.2.2.2.2.2.2.2.2.2.2.1, o_this_L194.2.2.2.2.2.2.2.2.2.2.2.2.2.2.2.2.2.1, o_this_L194.2.2.2.2.2.2.2.2.2.2.2.2.2.2.2.2.2.2.1, o_this_L194.2.2.2.2.2.2.2.2.2.2.2.2.2.2.2.2.2.2.2.1, o_this_L194.2.2.2.2.2.2.2.2.2.2.2.2.2.2.2.2.2.2.2.2.1, o_this_L194.2.2.2.2.2.2.2.2.2.2.2.2.2.2.2.2.2.2.2.2.2.1, o_this_L194.2.2.2.2.2.2.2.2.2.2.2.2.2.2.2.2.2.2.2.2.2.2.1, o_this_L194.2.2.2.2.2.2.2.2.2.2.2.2.2.2.2.2.2.2.2.2.2.2.2.1, o_this_L194.2.2.2.2.2.2.2.2.2.2.2.2.2.2.2.2.2.2.2.2.2.2.2.2)), (a_this_bytes, .inl (k_this_bytes, 2048, .inl w_49)), (a_this_keys, .inl (k_this_keys, 8, .inl r_this_keys)), (a_this_one, .inl (k_this_one, 40, .inl r_this_one_L194)), (a_this_two, .inl (k_this_two, 40, .inl r_this_two_L112))] H := hP
                              have hD : va_D A [(a_this, oX8 a_this_bytes a_this_keys a_this_reg a_this_card a_this_filled a_this_taken a_this_line a_this_one a_this_two (o_this_L194.1, o_this_L194.2.1, 3, o_this_L194.2.2.2.1, o_this_L194.2.2.2.2.1, o_this_L194.2.2.2.2.2.1, o_this_L194.2.2.2.2.2.2.1, o_this_L194.2.2.2.2.2.2.2.1, o_this_L194.2.2.2.2.2.2.2.2.1, o_this_L194.2.2.2.2.2.2.2.2.2.1, o_this_L194.2.2.2.2.2.2.2.2.2.2.1, o_this_L194.2.2.2.2.2.2.2.2.2.2.2.1, o_this_L194.2.2.2.2.2.2.2.2.2.2.2.2.1, o_this_L194.2.2.2.2.2.2.2.2.2.2.2.2.2.1, o_this_L194.2.2.2.2.2.2.2.2.2.2.2.2.2.2.1, o_this_L194.2.2.2.2.2.2.2.2.2.2.2.2.2.2.2.1, o_this_L194.2.2.2.2.2.2.2.2.2.2.2.2.2.2.2.2.1, o_this_L194.2.2.2.2.2.2.2.2.2.2.2.2.2.2.2.2.2.1, o_this_L194.2.2.2.2.2.2.2.2.2.2.2.2.2.2.2.2.2.2.1, o_this_L194.2.2.2.2.2.2.2.2.2.2.2.2.2.2.2.2.2.2.2.1, o_this_L194.2.2.2.2.2.2.2.2.2.2.2.2.2.2.2.2.2.2.2.2.1, o_this_L194.2.2.2.2.2.2.2.2.2.2.2.2.2.2.2.2.2.2.2.2.2.1, o_this_L194.2.2.2.2.2.2.2.2.2.2.2.2.2.2.2.2.2.2.2.2.2.2.1, o_this_L194.2.2.2.2.2.2.2.2.2.2.2.2.2.2.2.2.2.2.2.2.2.2.2.1, o_this_L194.2.2.2.2.2.2.2.2.2.2.2.2.2.2.2.2.2.2.2.2.2.2.2.2)), (a_this_bytes, .inl (k_this_bytes, 2048, .inl w_49)), (a_this_keys, .inl (k_this_keys, 8, .inl r_this_keys)), (a_this_one, .inl (k_this_one, 40, .inl r_this_one_L194)), (a_this_two, .inl (k_this_two, 40, .inl r_this_two_L112))] := hD
                              refine lv_aload_n hx hb dX8_decimal_245 rfl (lv_at hl 2 rfl) ?_
                              refine lv_aload_n hx hb dX8_decimal_246 rfl (lv_at hl 2 rfl) ?_
                              refine gf_X8_49 (v := .int o_this_L194.1) hx hb hown ht hK hP 0 rfl rfl dX8_decimal_247 ?_
                              refine lv_bipush (v := 16) hx hb dX8_decimal_250 (by decide) ?_
                              refine lv_idiv hx hb dX8_decimal_252 (by decide) ?_
                              refine lv_iconst (v := 2) hx hb dX8_decimal_253 (by decide) ?_
                              refine lv_irem hx hb dX8_decimal_254 (by decide) ?_
                              refine lv_iconst (v := 1) hx hb dX8_decimal_255 (by decide) ?_
                              refine lv_icmp_ne (tgt := 264) hx hb dX8_decimal_256 (by decide) (fun c_51 => ?_) (fun c_51 => ?_)
                              · skip
                                rw [if_neg c_51] at hF
                                refine lv_iconst (v := 0) hx hb dX8_decimal_264 (by decide) ?_
                                refine pf_X8_86 (x := 0) hx hb hown ht hK hP hD hS 0 rfl (Nat.le_of_ble_eq_true rfl) dX8_decimal_265 (fun H locs hP hD hS => ?_)
                                have hP : va_P D vwCl [(a_this, oX8 a_this_bytes a_this_keys a_this_reg a_this_card a_this_filled a_this_taken a_this_line a_this_one a_this_two (o_this_L194.1, o_this_L194.2.1, 3, o_this_L194.2.2.2.1, o_this_L194.2.2.2.2.1, o_this_L194.2.2.2.2.2.1, o_this_L194.2.2.2.2.2.2.1, o_this_L194.2.2.2.2.2.2.2.1, o_this_L194.2.2.2.2.2.2.2.2.1, 0, o_this_L194.2.2.2.2.2.2.2.2.2.2.1, o_this_L194.2.2.2.2.2.2.2.2.2.2.2.1, o_this_L194.2.2.2.2.2.2.2.2.2.2.2.2.1, o_this_L194.2.2.2.2.2.2.2.2.2.2.2.2.2.1, o_this_L194.2.2.2.2.2.2.2.2.2.2.2.2.2.2.1, o_this_L194.2.2.2.2.2.2.2.2.2.2.2.2.2.2.2.1, o_this_L194.2.2.2.2.2.2.2.2.2.2.2.2.2.2.2.2.1, o_this_L194.2.2.2.2.2.2.2.2.2.2.2.2.2.2.2.2.2.1, o_this_L194.2.2.2.2.2.2.2.2.2.2.2.2.2.2.2.2.2.2.1, o_this_L194.2.2.2.2.2.2.2.2.2.2.2.2.2.2.2.2.2.2.2.1, o_this_L194.2.2.2.2.2.2.2.2.2.2.2.2.2.2.2.2.2.2.2.2.1, o_this_L194.2.2.2.2.2.2.2.2.2.2.2.2.2.2.2.2.2.2.2.2.2.1, o_this_L194.2.2.2.2.2.2.2.2.2.2.2.2.2.2.2.2.2.2.2.2.2.2.1, o_this_L194.2.2.2.2.2.2.2.2.2.2.2.2.2.2.2.2.2.2.2.2.2.2.2.1, o_this_L194.2.2.2.2.2.2.2.2.2.2.2.2.2.2.2.2.2.2.2.2.2.2.2.2)), (a_this_bytes, .inl (k_this_bytes, 2048, .inl w_49)), (a_this_keys, .inl (k_this_keys, 8, .inl r_this_keys)), (a_this_one, .inl (k_this_one, 40, .inl r_this_one_L194)), (a_this_two, .inl (k_this_two, 40, .inl r_this_two_L112))] H := hP
                                have hD : va_D A [(a_this, oX8 a_this_bytes a_this_keys a_this_reg a_this_card a_this_filled a_this_taken a_this_line a_this_one a_this_two (o_this_L194.1, o_this_L194.2.1, 3, o_this_L194.2.2.2.1, o_this_L194.2.2.2.2.1, o_this_L194.2.2.2.2.2.1, o_this_L194.2.2.2.2.2.2.1, o_this_L194.2.2.2.2.2.2.2.1, o_this_L194.2.2.2.2.2.2.2.2.1, 0, o_this_L194.2.2.2.2.2.2.2.2.2.2.1, o_this_L194.2.2.2.2.2.2.2.2.2.2.2.1, o_this_L194.2.2.2.2.2.2.2.2.2.2.2.2.1, o_this_L194.2.2.2.2.2.2.2.2.2.2.2.2.2.1, o_this_L194.2.2.2.2.2.2.2.2.2.2.2.2.2.2.1, o_this_L194.2.2.2.2.2.2.2.2.2.2.2.2.2.2.2.1, o_this_L194.2.2.2.2.2.2.2.2.2.2.2.2.2.2.2.2.1, o_this_L194.2.2.2.2.2.2.2.2.2.2.2.2.2.2.2.2.2.1, o_this_L194.2.2.2.2.2.2.2.2.2.2.2.2.2.2.2.2.2.2.1, o_this_L194.2.2.2.2.2.2.2.2.2.2.2.2.2.2.2.2.2.2.2.1, o_this_L194.2.2.2.2.2.2.2.2.2.2.2.2.2.2.2.2.2.2.2.2.1, o_this_L194.2.2.2.2.2.2.2.2.2.2.2.2.2.2.2.2.2.2.2.2.2.1, o_this_L194.2.2.2.2.2.2.2.2.2.2.2.2.2.2.2.2.2.2.2.2.2.2.1, o_this_L194.2.2.2.2.2.2.2.2.2.2.2.2.2.2.2.2.2.2.2.2.2.2.2.1, o_this_L194.2.2.2.2.2.2.2.2.2.2.2.2.2.2.2.2.2.2.2.2.2.2.2.2)), (a_this_bytes, .inl (k_this_bytes, 2048, .inl w_49)), (a_this_keys, .inl (k_this_keys, 8, .inl r_this_keys)), (a_this_one, .inl (k_this_one, 40, .inl r_this_one_L194)), (a_this_two, .inl (k_this_two, 40, .inl r_this_two_L112))] := hD
                                exact hQ ((o_this_L194.1, o_this_L194.2.1, 3, o_this_L194.2.2.2.1, o_this_L194.2.2.2.2.1, o_this_L194.2.2.2.2.2.1, o_this_L194.2.2.2.2.2.2.1, o_this_L194.2.2.2.2.2.2.2.1, o_this_L194.2.2.2.2.2.2.2.2.1, 0, o_this_L194.2.2.2.2.2.2.2.2.2.2.1, o_this_L194.2.2.2.2.2.2.2.2.2.2.2.1, o_this_L194.2.2.2.2.2.2.2.2.2.2.2.2.1, o_this_L194.2.2.2.2.2.2.2.2.2.2.2.2.2.1, o_this_L194.2.2.2.2.2.2.2.2.2.2.2.2.2.2.1, o_this_L194.2.2.2.2.2.2.2.2.2.2.2.2.2.2.2.1, o_this_L194.2.2.2.2.2.2.2.2.2.2.2.2.2.2.2.2.1, o_this_L194.2.2.2.2.2.2.2.2.2.2.2.2.2.2.2.2.2.1, o_this_L194.2.2.2.2.2.2.2.2.2.2.2.2.2.2.2.2.2.2.1, o_this_L194.2.2.2.2.2.2.2.2.2.2.2.2.2.2.2.2.2.2.2.1, o_this_L194.2.2.2.2.2.2.2.2.2.2.2.2.2.2.2.2.2.2.2.2.1, o_this_L194.2.2.2.2.2.2.2.2.2.2.2.2.2.2.2.2.2.2.2.2.2.1, o_this_L194.2.2.2.2.2.2.2.2.2.2.2.2.2.2.2.2.2.2.2.2.2.2.1, o_this_L194.2.2.2.2.2.2.2.2.2.2.2.2.2.2.2.2.2.2.2.2.2.2.2.1, o_this_L194.2.2.2.2.2.2.2.2.2.2.2.2.2.2.2.2.2.2.2.2.2.2.2.2), w_49, r_this_one_L194, r_this_two_L112) _ _ _ _ dX8_decimal_268 hF.symm hP hD hS
                              · skip
                                rw [if_pos c_51] at hF
                                refine lv_bipush (v := 10) hx hb dX8_decimal_259 (by decide) ?_
                                refine lv_goto (tgt := 265) hx hb dX8_decimal_261 (by decide) ?_
                                refine pf_X8_86 (x := 10) hx hb hown ht hK hP hD hS 0 rfl (Nat.le_of_ble_eq_true rfl) dX8_decimal_265 (fun H locs hP hD hS => ?_)
                                have hP : va_P D vwCl [(a_this, oX8 a_this_bytes a_this_keys a_this_reg a_this_card a_this_filled a_this_taken a_this_line a_this_one a_this_two (o_this_L194.1, o_this_L194.2.1, 3, o_this_L194.2.2.2.1, o_this_L194.2.2.2.2.1, o_this_L194.2.2.2.2.2.1, o_this_L194.2.2.2.2.2.2.1, o_this_L194.2.2.2.2.2.2.2.1, o_this_L194.2.2.2.2.2.2.2.2.1, 10, o_this_L194.2.2.2.2.2.2.2.2.2.2.1, o_this_L194.2.2.2.2.2.2.2.2.2.2.2.1, o_this_L194.2.2.2.2.2.2.2.2.2.2.2.2.1, o_this_L194.2.2.2.2.2.2.2.2.2.2.2.2.2.1, o_this_L194.2.2.2.2.2.2.2.2.2.2.2.2.2.2.1, o_this_L194.2.2.2.2.2.2.2.2.2.2.2.2.2.2.2.1, o_this_L194.2.2.2.2.2.2.2.2.2.2.2.2.2.2.2.2.1, o_this_L194.2.2.2.2.2.2.2.2.2.2.2.2.2.2.2.2.2.1, o_this_L194.2.2.2.2.2.2.2.2.2.2.2.2.2.2.2.2.2.2.1, o_this_L194.2.2.2.2.2.2.2.2.2.2.2.2.2.2.2.2.2.2.2.1, o_this_L194.2.2.2.2.2.2.2.2.2.2.2.2.2.2.2.2.2.2.2.2.1, o_this_L194.2.2.2.2.2.2.2.2.2.2.2.2.2.2.2.2.2.2.2.2.2.1, o_this_L194.2.2.2.2.2.2.2.2.2.2.2.2.2.2.2.2.2.2.2.2.2.2.1, o_this_L194.2.2.2.2.2.2.2.2.2.2.2.2.2.2.2.2.2.2.2.2.2.2.2.1, o_this_L194.2.2.2.2.2.2.2.2.2.2.2.2.2.2.2.2.2.2.2.2.2.2.2.2)), (a_this_bytes, .inl (k_this_bytes, 2048, .inl w_49)), (a_this_keys, .inl (k_this_keys, 8, .inl r_this_keys)), (a_this_one, .inl (k_this_one, 40, .inl r_this_one_L194)), (a_this_two, .inl (k_this_two, 40, .inl r_this_two_L112))] H := hP
                                have hD : va_D A [(a_this, oX8 a_this_bytes a_this_keys a_this_reg a_this_card a_this_filled a_this_taken a_this_line a_this_one a_this_two (o_this_L194.1, o_this_L194.2.1, 3, o_this_L194.2.2.2.1, o_this_L194.2.2.2.2.1, o_this_L194.2.2.2.2.2.1, o_this_L194.2.2.2.2.2.2.1, o_this_L194.2.2.2.2.2.2.2.1, o_this_L194.2.2.2.2.2.2.2.2.1, 10, o_this_L194.2.2.2.2.2.2.2.2.2.2.1, o_this_L194.2.2.2.2.2.2.2.2.2.2.2.1, o_this_L194.2.2.2.2.2.2.2.2.2.2.2.2.1, o_this_L194.2.2.2.2.2.2.2.2.2.2.2.2.2.1, o_this_L194.2.2.2.2.2.2.2.2.2.2.2.2.2.2.1, o_this_L194.2.2.2.2.2.2.2.2.2.2.2.2.2.2.2.1, o_this_L194.2.2.2.2.2.2.2.2.2.2.2.2.2.2.2.2.1, o_this_L194.2.2.2.2.2.2.2.2.2.2.2.2.2.2.2.2.2.1, o_this_L194.2.2.2.2.2.2.2.2.2.2.2.2.2.2.2.2.2.2.1, o_this_L194.2.2.2.2.2.2.2.2.2.2.2.2.2.2.2.2.2.2.2.1, o_this_L194.2.2.2.2.2.2.2.2.2.2.2.2.2.2.2.2.2.2.2.2.1, o_this_L194.2.2.2.2.2.2.2.2.2.2.2.2.2.2.2.2.2.2.2.2.2.1, o_this_L194.2.2.2.2.2.2.2.2.2.2.2.2.2.2.2.2.2.2.2.2.2.2.1, o_this_L194.2.2.2.2.2.2.2.2.2.2.2.2.2.2.2.2.2.2.2.2.2.2.2.1, o_this_L194.2.2.2.2.2.2.2.2.2.2.2.2.2.2.2.2.2.2.2.2.2.2.2.2)), (a_this_bytes, .inl (k_this_bytes, 2048, .inl w_49)), (a_this_keys, .inl (k_this_keys, 8, .inl r_this_keys)), (a_this_one, .inl (k_this_one, 40, .inl r_this_one_L194)), (a_this_two, .inl (k_this_two, 40, .inl r_this_two_L112))] := hD
                                exact hQ ((o_this_L194.1, o_this_L194.2.1, 3, o_this_L194.2.2.2.1, o_this_L194.2.2.2.2.1, o_this_L194.2.2.2.2.2.1, o_this_L194.2.2.2.2.2.2.1, o_this_L194.2.2.2.2.2.2.2.1, o_this_L194.2.2.2.2.2.2.2.2.1, 10, o_this_L194.2.2.2.2.2.2.2.2.2.2.1, o_this_L194.2.2.2.2.2.2.2.2.2.2.2.1, o_this_L194.2.2.2.2.2.2.2.2.2.2.2.2.1, o_this_L194.2.2.2.2.2.2.2.2.2.2.2.2.2.1, o_this_L194.2.2.2.2.2.2.2.2.2.2.2.2.2.2.1, o_this_L194.2.2.2.2.2.2.2.2.2.2.2.2.2.2.2.1, o_this_L194.2.2.2.2.2.2.2.2.2.2.2.2.2.2.2.2.1, o_this_L194.2.2.2.2.2.2.2.2.2.2.2.2.2.2.2.2.2.1, o_this_L194.2.2.2.2.2.2.2.2.2.2.2.2.2.2.2.2.2.2.1, o_this_L194.2.2.2.2.2.2.2.2.2.2.2.2.2.2.2.2.2.2.2.1, o_this_L194.2.2.2.2.2.2.2.2.2.2.2.2.2.2.2.2.2.2.2.2.1, o_this_L194.2.2.2.2.2.2.2.2.2.2.2.2.2.2.2.2.2.2.2.2.2.1, o_this_L194.2.2.2.2.2.2.2.2.2.2.2.2.2.2.2.2.2.2.2.2.2.2.1, o_this_L194.2.2.2.2.2.2.2.2.2.2.2.2.2.2.2.2.2.2.2.2.2.2.2.1, o_this_L194.2.2.2.2.2.2.2.2.2.2.2.2.2.2.2.2.2.2.2.2.2.2.2.2), w_49, r_this_one_L194, r_this_two_L112) _ _ _ _ dX8_decimal_268 hF.symm hP hD hS
                          · skip
                            rw [if_neg c_47] at hF
                            rw [if_neg c_47] at hs
                            refine lv_iload hx hb dX8_decimal_201 (lv_at hl 1 rfl) ?_
                            refine lv_if_ne (tgt := 216) hx hb dX8_decimal_203 (by decide) (fun c_52 => ?_) (fun c_52 => ?_)
                            · have c_52 := (bI_ne0 _).mp c_52
                              rw [if_pos c_52] at hF
                              rw [if_pos c_52] at hs
                              refine lv_iconst (v := 1) hx hb dX8_decimal_216 (by decide) ?_
                              refine lv_goto (tgt := 221) hx hb dX8_decimal_217 (by decide) ?_
                              refine lv_istore (lv' := [(6, .int 1), (7, .int x7_194), (0, .ref a_this), (1, .int p1), (2, .int p2), (3, .int p3), (4, .int p4), (5, .int p5)]) hx hb dX8_decimal_221 hl (by decide) rfl (fun ls hl => ?_)
                              refine lv_iinc (v := (x7_194 + (1 : Int32))) (lv' := [(7, .int (x7_194 + (1 : Int32))), (6, .int 1), (0, .ref a_this), (1, .int p1), (2, .int p2), (3, .int p3), (4, .int p4), (5, .int p5)]) hx hb dX8_decimal_223 hl (k := 1) rfl rfl (by decide) rfl (fun ls hl => ?_)
                              refine lv_goto (tgt := 194) hx hb dX8_decimal_226 (by decide) ?_
                              exact ih o_this_L194 r_this_one_L194 (x7_194 + (1 : Int32)) true _ _ _ (by first | exact q_up hm c_5 | exact q_up hm c_8 | exact q_up hm c_14 | exact q_up hm c_39 | exact q_up hm hv | exact q_up hm c_41 | exact q_up hm c_45 | exact q_up hm c_47 | exact q_up hm c_52)  hP hD hS (lv_sub hl [0, 1, 2, 3, 4, 5, 6, 7] rfl) hF hs
                            · have c_52 : ¬ x6_194 = true := by rw [(bI_eq0 _).mp c_52]; decide
                              rw [if_neg c_52] at hF
                              rw [if_neg c_52] at hs
                              refine lv_aload_n hx hb dX8_decimal_206 rfl (lv_at hl 2 rfl) ?_
                              refine gf_X8_31 (v := .ref a_this_one) hx hb hown ht hK hP 0 rfl rfl dX8_decimal_207 ?_
                              refine lv_iload hx hb dX8_decimal_210 (lv_at hl 0 rfl) ?_
                              obtain ⟨hi_53, hs⟩ := hs
                              refine va_iald hx hb hK hP 3 2 rfl rfl hi_53 dX8_decimal_212 ?_
                              refine lv_if_eq (tgt := 220) hx hb dX8_decimal_213 (by decide) (fun c_54 => ?_) (fun c_54 => ?_)
                              · skip
                                rw [if_pos c_54] at hF
                                rw [if_pos c_54] at hs
                                refine lv_iconst (v := 0) hx hb dX8_decimal_220 (by decide) ?_
                                refine lv_istore (lv' := [(6, .int 0), (7, .int x7_194), (0, .ref a_this), (1, .int p1), (2, .int p2), (3, .int p3), (4, .int p4), (5, .int p5)]) hx hb dX8_decimal_221 hl (by decide) rfl (fun ls hl => ?_)
                                refine lv_iinc (v := (x7_194 + (1 : Int32))) (lv' := [(7, .int (x7_194 + (1 : Int32))), (6, .int 0), (0, .ref a_this), (1, .int p1), (2, .int p2), (3, .int p3), (4, .int p4), (5, .int p5)]) hx hb dX8_decimal_223 hl (k := 1) rfl rfl (by decide) rfl (fun ls hl => ?_)
                                refine lv_goto (tgt := 194) hx hb dX8_decimal_226 (by decide) ?_
                                exact ih o_this_L194 r_this_one_L194 (x7_194 + (1 : Int32)) false _ _ _ (by first | exact q_up hm c_5 | exact q_up hm c_8 | exact q_up hm c_14 | exact q_up hm c_39 | exact q_up hm hv | exact q_up hm c_41 | exact q_up hm c_45 | exact q_up hm c_47 | exact q_up hm c_52 | exact q_up hm c_54)  hP hD hS (lv_sub hl [0, 1, 2, 3, 4, 5, 6, 7] rfl) hF hs
                              · skip
                                rw [if_neg c_54] at hF
                                rw [if_neg c_54] at hs
                                refine lv_iconst (v := 1) hx hb dX8_decimal_216 (by decide) ?_
                                refine lv_goto (tgt := 221) hx hb dX8_decimal_217 (by decide) ?_
                                refine lv_istore (lv' := [(6, .int 1), (7, .int x7_194), (0, .ref a_this), (1, .int p1), (2, .int p2), (3, .int p3), (4, .int p4), (5, .int p5)]) hx hb dX8_decimal_221 hl (by decide) rfl (fun ls hl => ?_)
                                refine lv_iinc (v := (x7_194 + (1 : Int32))) (lv' := [(7, .int (x7_194 + (1 : Int32))), (6, .int 1), (0, .ref a_this), (1, .int p1), (2, .int p2), (3, .int p3), (4, .int p4), (5, .int p5)]) hx hb dX8_decimal_223 hl (k := 1) rfl rfl (by decide) rfl (fun ls hl => ?_)
                                refine lv_goto (tgt := 194) hx hb dX8_decimal_226 (by decide) ?_
                                exact ih o_this_L194 r_this_one_L194 (x7_194 + (1 : Int32)) true _ _ _ (by first | exact q_up hm c_5 | exact q_up hm c_8 | exact q_up hm c_14 | exact q_up hm c_39 | exact q_up hm hv | exact q_up hm c_41 | exact q_up hm c_45 | exact q_up hm c_47 | exact q_up hm c_52 | exact q_up hm c_54)  hP hD hS (lv_sub hl [0, 1, 2, 3, 4, 5, 6, 7] rfl) hF hs
                      exact L194 (((40 : Int32).toInt - ((((2 : Int32) * p3) - (1 : Int32)) : Int32).toInt).toNat + 1) w_44 w_43.2 (((2 : Int32) * p3) - (1 : Int32)) false _ _ _ (Nat.lt_succ_self _)  hP hD hS (lv_sub hl [0, 1, 2, 3, 4, 5, 6, 7] rfl) hF hs
                    · skip
                      rw [if_pos c_45] at hF
                      rw [if_pos c_45] at hs
                      exact hQ (w_44, r_this_bytes, w_43.2, r_this_two_L112) _ _ _ _ dX8_decimal_183 hF.symm hP hD hS
                  · skip
                    rw [if_neg c_41] at hF
                    rw [if_neg c_41] at hs
                    refine lv_aload_n hx hb dX8_decimal_119 rfl (lv_at hl 1 rfl) ?_
                    refine gf_X8_31 (v := .ref a_this_one) hx hb hown ht hK hP 0 rfl rfl dX8_decimal_120 ?_
                    refine lv_iload hx hb dX8_decimal_123 (lv_at hl 0 rfl) ?_
                    refine lv_dup2_11 hx hb dX8_decimal_125 rfl rfl ?_
                    refine va_iald hx hb hK hP 3 2 rfl rfl (q_in hv c_41 (by decide)) dX8_decimal_126 ?_
                    refine lv_iload_n hx hb dX8_decimal_127 rfl (lv_at hl 2 rfl) ?_
                    refine lv_sipush (v := 249) hx hb dX8_decimal_128 (by decide) ?_
                    refine lv_icmp_eq (tgt := 141) hx hb dX8_decimal_131 (by decide) (fun c_55 => ?_) (fun c_55 => ?_)
                    · skip
                      rw [if_pos c_55] at hF
                      rw [if_pos c_55] at hs
                      refine lv_aload_n hx hb dX8_decimal_141 rfl (lv_at hl 1 rfl) ?_
                      refine gf_X8_34 (v := .ref a_this_two) hx hb hown ht hK hP 0 rfl rfl dX8_decimal_142 ?_
                      refine lv_iload hx hb dX8_decimal_145 (lv_at hl 0 rfl) ?_
                      refine va_iald hx hb hK hP 4 3 rfl rfl (q_in hv c_41 (by decide)) dX8_decimal_147 ?_
                      refine lv_ineg hx hb dX8_decimal_148 ?_
                      refine lv_goto (tgt := 159) hx hb dX8_decimal_149 (by decide) ?_
                      refine lv_iadd hx hb dX8_decimal_159 ?_
                      refine va_iast hx hb hK hP hD hS 3 2 rfl rfl (q_in hv c_41 (by decide)) dX8_decimal_160 (fun H locs hP hD hS => ?_)
                      have hP : va_P D vwCl [(a_this, oX8 a_this_bytes a_this_keys a_this_reg a_this_card a_this_filled a_this_taken a_this_line a_this_one a_this_two o_this_L112), (a_this_bytes, .inl (k_this_bytes, 2048, .inl r_this_bytes)), (a_this_keys, .inl (k_this_keys, 8, .inl r_this_keys)), (a_this_one, .inl (k_this_one, 40, .inl (upd r_this_one_L112 x6_112.toNatClampNeg ((r_this_one_L112 x6_112.toNatClampNeg) + (-(r_this_two_L112 x6_112.toNatClampNeg)))))), (a_this_two, .inl (k_this_two, 40, .inl r_this_two_L112))] H := hP
                      have hD : va_D A [(a_this, oX8 a_this_bytes a_this_keys a_this_reg a_this_card a_this_filled a_this_taken a_this_line a_this_one a_this_two o_this_L112), (a_this_bytes, .inl (k_this_bytes, 2048, .inl r_this_bytes)), (a_this_keys, .inl (k_this_keys, 8, .inl r_this_keys)), (a_this_one, .inl (k_this_one, 40, .inl (upd r_this_one_L112 x6_112.toNatClampNeg ((r_this_one_L112 x6_112.toNatClampNeg) + (-(r_this_two_L112 x6_112.toNatClampNeg)))))), (a_this_two, .inl (k_this_two, 40, .inl r_this_two_L112))] := hD
                      refine lv_iinc (v := (x6_112 + (1 : Int32))) (lv' := [(6, .int (x6_112 + (1 : Int32))), (0, .ref a_this), (1, .int p1), (2, .int p2), (3, .int p3), (4, .int p4), (5, .int p5)]) hx hb dX8_decimal_161 hl (k := 0) rfl rfl (by decide) rfl (fun ls hl => ?_)
                      refine lv_goto (tgt := 112) hx hb dX8_decimal_164 (by decide) ?_
                      exact ih o_this_L112 (upd r_this_one_L112 x6_112.toNatClampNeg ((r_this_one_L112 x6_112.toNatClampNeg) + (-(r_this_two_L112 x6_112.toNatClampNeg)))) r_this_two_L112 (x6_112 + (1 : Int32)) _ _ _ (by first | exact q_up hm c_5 | exact q_up hm c_8 | exact q_up hm c_14 | exact q_up hm c_39 | exact q_up hm hv | exact q_up hm c_41 | exact q_up hm c_55) (by first | exact q_upnn hv c_5 | exact q_upnn hv c_8 | exact q_upnn hv c_14 | exact q_upnn hv c_39 | exact q_upnn hv hv | exact q_upnn hv c_41 | exact q_upnn hv c_55) hP hD hS (lv_sub hl [0, 1, 2, 3, 4, 5, 6] rfl) hF hs
                    · skip
                      rw [if_neg c_55] at hF
                      rw [if_neg c_55] at hs
                      refine lv_iload_n hx hb dX8_decimal_134 rfl (lv_at hl 2 rfl) ?_
                      refine lv_sipush (v := 251) hx hb dX8_decimal_135 (by decide) ?_
                      refine lv_icmp_ne (tgt := 152) hx hb dX8_decimal_138 (by decide) (fun c_56 => ?_) (fun c_56 => ?_)
                      · skip
                        rw [if_neg c_56] at hF
                        rw [if_neg c_56] at hs
                        refine lv_aload_n hx hb dX8_decimal_152 rfl (lv_at hl 1 rfl) ?_
                        refine gf_X8_34 (v := .ref a_this_two) hx hb hown ht hK hP 0 rfl rfl dX8_decimal_153 ?_
                        refine lv_iload hx hb dX8_decimal_156 (lv_at hl 0 rfl) ?_
                        refine va_iald hx hb hK hP 4 3 rfl rfl (q_in hv c_41 (by decide)) dX8_decimal_158 ?_
                        refine lv_iadd hx hb dX8_decimal_159 ?_
                        refine va_iast hx hb hK hP hD hS 3 2 rfl rfl (q_in hv c_41 (by decide)) dX8_decimal_160 (fun H locs hP hD hS => ?_)
                        have hP : va_P D vwCl [(a_this, oX8 a_this_bytes a_this_keys a_this_reg a_this_card a_this_filled a_this_taken a_this_line a_this_one a_this_two o_this_L112), (a_this_bytes, .inl (k_this_bytes, 2048, .inl r_this_bytes)), (a_this_keys, .inl (k_this_keys, 8, .inl r_this_keys)), (a_this_one, .inl (k_this_one, 40, .inl (upd r_this_one_L112 x6_112.toNatClampNeg ((r_this_one_L112 x6_112.toNatClampNeg) + (r_this_two_L112 x6_112.toNatClampNeg))))), (a_this_two, .inl (k_this_two, 40, .inl r_this_two_L112))] H := hP
                        have hD : va_D A [(a_this, oX8 a_this_bytes a_this_keys a_this_reg a_this_card a_this_filled a_this_taken a_this_line a_this_one a_this_two o_this_L112), (a_this_bytes, .inl (k_this_bytes, 2048, .inl r_this_bytes)), (a_this_keys, .inl (k_this_keys, 8, .inl r_this_keys)), (a_this_one, .inl (k_this_one, 40, .inl (upd r_this_one_L112 x6_112.toNatClampNeg ((r_this_one_L112 x6_112.toNatClampNeg) + (r_this_two_L112 x6_112.toNatClampNeg))))), (a_this_two, .inl (k_this_two, 40, .inl r_this_two_L112))] := hD
                        refine lv_iinc (v := (x6_112 + (1 : Int32))) (lv' := [(6, .int (x6_112 + (1 : Int32))), (0, .ref a_this), (1, .int p1), (2, .int p2), (3, .int p3), (4, .int p4), (5, .int p5)]) hx hb dX8_decimal_161 hl (k := 0) rfl rfl (by decide) rfl (fun ls hl => ?_)
                        refine lv_goto (tgt := 112) hx hb dX8_decimal_164 (by decide) ?_
                        exact ih o_this_L112 (upd r_this_one_L112 x6_112.toNatClampNeg ((r_this_one_L112 x6_112.toNatClampNeg) + (r_this_two_L112 x6_112.toNatClampNeg))) r_this_two_L112 (x6_112 + (1 : Int32)) _ _ _ (by first | exact q_up hm c_5 | exact q_up hm c_8 | exact q_up hm c_14 | exact q_up hm c_39 | exact q_up hm hv | exact q_up hm c_41 | exact q_up hm c_55 | exact q_up hm c_56) (by first | exact q_upnn hv c_5 | exact q_upnn hv c_8 | exact q_upnn hv c_14 | exact q_upnn hv c_39 | exact q_upnn hv hv | exact q_upnn hv c_41 | exact q_upnn hv c_55 | exact q_upnn hv c_56) hP hD hS (lv_sub hl [0, 1, 2, 3, 4, 5, 6] rfl) hF hs
                      · skip
                        rw [if_pos c_56] at hF
                        rw [if_pos c_56] at hs
                        refine lv_aload_n hx hb dX8_decimal_141 rfl (lv_at hl 1 rfl) ?_
                        refine gf_X8_34 (v := .ref a_this_two) hx hb hown ht hK hP 0 rfl rfl dX8_decimal_142 ?_
                        refine lv_iload hx hb dX8_decimal_145 (lv_at hl 0 rfl) ?_
                        refine va_iald hx hb hK hP 4 3 rfl rfl (q_in hv c_41 (by decide)) dX8_decimal_147 ?_
                        refine lv_ineg hx hb dX8_decimal_148 ?_
                        refine lv_goto (tgt := 159) hx hb dX8_decimal_149 (by decide) ?_
                        refine lv_iadd hx hb dX8_decimal_159 ?_
                        refine va_iast hx hb hK hP hD hS 3 2 rfl rfl (q_in hv c_41 (by decide)) dX8_decimal_160 (fun H locs hP hD hS => ?_)
                        have hP : va_P D vwCl [(a_this, oX8 a_this_bytes a_this_keys a_this_reg a_this_card a_this_filled a_this_taken a_this_line a_this_one a_this_two o_this_L112), (a_this_bytes, .inl (k_this_bytes, 2048, .inl r_this_bytes)), (a_this_keys, .inl (k_this_keys, 8, .inl r_this_keys)), (a_this_one, .inl (k_this_one, 40, .inl (upd r_this_one_L112 x6_112.toNatClampNeg ((r_this_one_L112 x6_112.toNatClampNeg) + (-(r_this_two_L112 x6_112.toNatClampNeg)))))), (a_this_two, .inl (k_this_two, 40, .inl r_this_two_L112))] H := hP
                        have hD : va_D A [(a_this, oX8 a_this_bytes a_this_keys a_this_reg a_this_card a_this_filled a_this_taken a_this_line a_this_one a_this_two o_this_L112), (a_this_bytes, .inl (k_this_bytes, 2048, .inl r_this_bytes)), (a_this_keys, .inl (k_this_keys, 8, .inl r_this_keys)), (a_this_one, .inl (k_this_one, 40, .inl (upd r_this_one_L112 x6_112.toNatClampNeg ((r_this_one_L112 x6_112.toNatClampNeg) + (-(r_this_two_L112 x6_112.toNatClampNeg)))))), (a_this_two, .inl (k_this_two, 40, .inl r_this_two_L112))] := hD
                        refine lv_iinc (v := (x6_112 + (1 : Int32))) (lv' := [(6, .int (x6_112 + (1 : Int32))), (0, .ref a_this), (1, .int p1), (2, .int p2), (3, .int p3), (4, .int p4), (5, .int p5)]) hx hb dX8_decimal_161 hl (k := 0) rfl rfl (by decide) rfl (fun ls hl => ?_)
                        refine lv_goto (tgt := 112) hx hb dX8_decimal_164 (by decide) ?_
                        exact ih o_this_L112 (upd r_this_one_L112 x6_112.toNatClampNeg ((r_this_one_L112 x6_112.toNatClampNeg) + (-(r_this_two_L112 x6_112.toNatClampNeg)))) r_this_two_L112 (x6_112 + (1 : Int32)) _ _ _ (by first | exact q_up hm c_5 | exact q_up hm c_8 | exact q_up hm c_14 | exact q_up hm c_39 | exact q_up hm hv | exact q_up hm c_41 | exact q_up hm c_55 | exact q_up hm c_56) (by first | exact q_upnn hv c_5 | exact q_upnn hv c_8 | exact q_upnn hv c_14 | exact q_upnn hv c_39 | exact q_upnn hv hv | exact q_upnn hv c_41 | exact q_upnn hv c_55 | exact q_upnn hv c_56) hP hD hS (lv_sub hl [0, 1, 2, 3, 4, 5, 6] rfl) hF hs
              exact L112 (((40 : Int32).toInt - (0 : Int32).toInt).toNat + 1) w_13 w_38 w_10.2 0 _ _ _ (Nat.lt_succ_self _) (by decide) hP hD hS (lv_sub hl [0, 1, 2, 3, 4, 5, 6] rfl) hF hs
            · skip
              rw [if_neg c_39] at hF
              rw [if_neg c_39] at hs
              exact hQ (w_13, r_this_bytes, w_38, w_10.2) _ _ _ _ dX8_decimal_108 hF.symm hP hD hS
        refine lv_if_ne (tgt := 56) hx hb dX8_decimal_49 (by decide) (fun c_12 => ?_) (fun c_12 => ?_)
        · have c_12 := (bI_ne0 _).mp c_12
          rw [if_pos c_12] at hV
          refine lv_iconst (v := 0) hx hb dX8_decimal_56 (by decide) ?_
          subst hV
          exact J11 _ _ hP hD hS
        · have c_12 : ¬ w_10.1 = true := by rw [(bI_eq0 _).mp c_12]; decide
          rw [if_neg c_12] at hV
          refine lv_iconst (v := 1) hx hb dX8_decimal_52 (by decide) ?_
          refine lv_goto (tgt := 57) hx hb dX8_decimal_53 (by decide) ?_
          subst hV
          exact J11 _ _ hP hD hS
      · have c_8 : ¬ w_7.1 = true := by rw [(bI_eq0 _).mp c_8]; decide
        rw [if_neg c_8] at hF
        rw [if_neg c_8] at hs
        exact hQ (w_7.2, r_this_bytes, r_this_one, r_this_two) _ _ _ _ dX8_decimal_35 hF.symm hP hD hS
  refine lv_iload_n hx hb dX8_decimal_4 rfl (lv_at hl 1 rfl) ?_
  refine lv_sipush (v := 249) hx hb dX8_decimal_5 (by decide) ?_
  refine lv_icmp_eq (tgt := 15) hx hb dX8_decimal_8 (by decide) (fun c_2 => ?_) (fun c_2 => ?_)
  · skip
    rw [if_pos c_2] at hV
    refine lv_iconst (v := 0) hx hb dX8_decimal_15 (by decide) ?_
    subst hV
    exact J1 _ _ hP hD hS
  · skip
    rw [if_neg c_2] at hV
    refine lv_iconst (v := 1) hx hb dX8_decimal_11 (by decide) ?_
    refine lv_goto (tgt := 16) hx hb dX8_decimal_12 (by decide) ?_
    subst hV
    exact J1 _ _ hP hD hS
theorem cv_X8_decimal : qV yX8_decimal cX8_decimal 8 none 5 := ⟨kc_X8_decimal, kt_X8_decimal, ks_X8_decimal, kn_X8, by decide, by decide +kernel⟩
def f_X8_doStrings_L105 (r_this_one : Nat → Int32) (r_this_two : Nat → Int32) (p1 : Int32) (p2 : Int32) (p3 : Int32) (p4 : Int32) : Nat → (Int32 × Int32 × Int32 × Int32 × Bool × Bool × Int32 × Int32 × Int32 × Int32 × Bool × Bool × Bool × Int32 × Int32 × Int32 × Int32 × Int32 × Int32 × Int32 × Int32 × Int32 × Int32 × Int32 × Int32) → (Nat → Int32) → Int32 → (Int32 × Int32 × Int32 × Int32 × Bool × Bool × Int32 × Int32 × Int32 × Int32 × Bool × Bool × Bool × Int32 × Int32 × Int32 × Int32 × Int32 × Int32 × Int32 × Int32 × Int32 × Int32 × Int32 × Int32) × (Nat → Int32) × (Nat → Int32) × (Nat → Int32)
  | 0, o_this_L105, r_this_bytes_L105, x6 => (o_this_L105, r_this_bytes_L105, r_this_one, r_this_two)
  | fuel + 1, o_this_L105, r_this_bytes_L105, x6 => (if (p2 + (1 : Int32)) ≤ x6 then (o_this_L105, r_this_bytes_L105, r_this_one, r_this_two) else (if p1 = (210 : Int32) then f_X8_doStrings_L105 r_this_one r_this_two p1 p2 p3 p4 fuel o_this_L105 (upd r_this_bytes_L105 (p3 + x6).toNatClampNeg (r_this_bytes_L105 (p4 + x6).toNatClampNeg)) (x6 + (1 : Int32)) else (if p1 = (220 : Int32) then f_X8_doStrings_L105 r_this_one r_this_two p1 p2 p3 p4 fuel o_this_L105 (upd r_this_bytes_L105 (p3 + x6).toNatClampNeg (r_this_bytes_L105 (p4 + (r_this_bytes_L105 (p3 + x6).toNatClampNeg)).toNatClampNeg)) (x6 + (1 : Int32)) else (if o_this_L105.2.2.1 = 0 then (q_let (f_X8_compared o_this_L105 (r_this_bytes_L105 (p3 + x6).toNatClampNeg) (r_this_bytes_L105 (p4 + x6).toNatClampNeg)) fun w_18 => f_X8_doStrings_L105 r_this_one r_this_two p1 p2 p3 p4 fuel w_18 r_this_bytes_L105 (x6 + (1 : Int32))) else f_X8_doStrings_L105 r_this_one r_this_two p1 p2 p3 p4 fuel o_this_L105 r_this_bytes_L105 (x6 + (1 : Int32))))))
def s_X8_doStrings_L105 (p1 : Int32) (p2 : Int32) (p3 : Int32) (p4 : Int32) : Nat → (Int32 × Int32 × Int32 × Int32 × Bool × Bool × Int32 × Int32 × Int32 × Int32 × Bool × Bool × Bool × Int32 × Int32 × Int32 × Int32 × Int32 × Int32 × Int32 × Int32 × Int32 × Int32 × Int32 × Int32) → (Nat → Int32) → Int32 → Prop
  | 0, _, _, _ => True
  | fuel + 1, o_this_L105, r_this_bytes_L105, x6 => (if (p2 + (1 : Int32)) ≤ x6 then True else (if p1 = (210 : Int32) then (vp_in (p4 + x6) 2048 ∧ (vp_in (p3 + x6) 2048 ∧ s_X8_doStrings_L105 p1 p2 p3 p4 fuel o_this_L105 (upd r_this_bytes_L105 (p3 + x6).toNatClampNeg (r_this_bytes_L105 (p4 + x6).toNatClampNeg)) (x6 + (1 : Int32)))) else (if p1 = (220 : Int32) then (vp_in (p3 + x6) 2048 ∧ (vp_in (p4 + (r_this_bytes_L105 (p3 + x6).toNatClampNeg)) 2048 ∧ (vp_in (p3 + x6) 2048 ∧ s_X8_doStrings_L105 p1 p2 p3 p4 fuel o_this_L105 (upd r_this_bytes_L105 (p3 + x6).toNatClampNeg (r_this_bytes_L105 (p4 + (r_this_bytes_L105 (p3 + x6).toNatClampNeg)).toNatClampNeg)) (x6 + (1 : Int32))))) else (if o_this_L105.2.2.1 = 0 then (vp_in (p3 + x6) 2048 ∧ (vp_in (p4 + x6) 2048 ∧ (q_let (f_X8_compared o_this_L105 (r_this_bytes_L105 (p3 + x6).toNatClampNeg) (r_this_bytes_L105 (p4 + x6).toNatClampNeg)) fun w_18 => s_X8_doStrings_L105 p1 p2 p3 p4 fuel w_18 r_this_bytes_L105 (x6 + (1 : Int32))))) else s_X8_doStrings_L105 p1 p2 p3 p4 fuel o_this_L105 r_this_bytes_L105 (x6 + (1 : Int32))))))
def f_X8_doStrings_L105b (r_this_one : Nat → Int32) (r_this_two : Nat → Int32) (p1 : Int32) (p2 : Int32) (p3 : Int32) (p4 : Int32) : Nat → (Int32 × Int32 × Int32 × Int32 × Bool × Bool × Int32 × Int32 × Int32 × Int32 × Bool × Bool × Bool × Int32 × Int32 × Int32 × Int32 × Int32 × Int32 × Int32 × Int32 × Int32 × Int32 × Int32 × Int32) → (Nat → Int32) → Int32 → (Int32 × Int32 × Int32 × Int32 × Bool × Bool × Int32 × Int32 × Int32 × Int32 × Bool × Bool × Bool × Int32 × Int32 × Int32 × Int32 × Int32 × Int32 × Int32 × Int32 × Int32 × Int32 × Int32 × Int32) × (Nat → Int32) × (Nat → Int32) × (Nat → Int32)
  | 0, o_this_L105, r_this_bytes_L105, x6 => (o_this_L105, r_this_bytes_L105, r_this_one, r_this_two)
  | fuel + 1, o_this_L105, r_this_bytes_L105, x6 => (if (p2 + (1 : Int32)) ≤ x6 then (o_this_L105, r_this_bytes_L105, r_this_one, r_this_two) else (if p1 = (210 : Int32) then f_X8_doStrings_L105b r_this_one r_this_two p1 p2 p3 p4 fuel o_this_L105 (upd r_this_bytes_L105 (p3 + x6).toNatClampNeg (r_this_bytes_L105 (p4 + x6).toNatClampNeg)) (x6 + (1 : Int32)) else (if p1 = (220 : Int32) then f_X8_doStrings_L105b r_this_one r_this_two p1 p2 p3 p4 fuel o_this_L105 (upd r_this_bytes_L105 (p3 + x6).toNatClampNeg (r_this_bytes_L105 (p4 + (r_this_bytes_L105 (p3 + x6).toNatClampNeg)).toNatClampNeg)) (x6 + (1 : Int32)) else (if o_this_L105.2.2.1 = 0 then (q_let (f_X8_compared o_this_L105 (r_this_bytes_L105 (p3 + x6).toNatClampNeg) (r_this_bytes_L105 (p4 + x6).toNatClampNeg)) fun w_31 => f_X8_doStrings_L105b r_this_one r_this_two p1 p2 p3 p4 fuel w_31 r_this_bytes_L105 (x6 + (1 : Int32))) else f_X8_doStrings_L105b r_this_one r_this_two p1 p2 p3 p4 fuel o_this_L105 r_this_bytes_L105 (x6 + (1 : Int32))))))
def s_X8_doStrings_L105b (p1 : Int32) (p2 : Int32) (p3 : Int32) (p4 : Int32) : Nat → (Int32 × Int32 × Int32 × Int32 × Bool × Bool × Int32 × Int32 × Int32 × Int32 × Bool × Bool × Bool × Int32 × Int32 × Int32 × Int32 × Int32 × Int32 × Int32 × Int32 × Int32 × Int32 × Int32 × Int32) → (Nat → Int32) → Int32 → Prop
  | 0, _, _, _ => True
  | fuel + 1, o_this_L105, r_this_bytes_L105, x6 => (if (p2 + (1 : Int32)) ≤ x6 then True else (if p1 = (210 : Int32) then (vp_in (p4 + x6) 2048 ∧ (vp_in (p3 + x6) 2048 ∧ s_X8_doStrings_L105b p1 p2 p3 p4 fuel o_this_L105 (upd r_this_bytes_L105 (p3 + x6).toNatClampNeg (r_this_bytes_L105 (p4 + x6).toNatClampNeg)) (x6 + (1 : Int32)))) else (if p1 = (220 : Int32) then (vp_in (p3 + x6) 2048 ∧ (vp_in (p4 + (r_this_bytes_L105 (p3 + x6).toNatClampNeg)) 2048 ∧ (vp_in (p3 + x6) 2048 ∧ s_X8_doStrings_L105b p1 p2 p3 p4 fuel o_this_L105 (upd r_this_bytes_L105 (p3 + x6).toNatClampNeg (r_this_bytes_L105 (p4 + (r_this_bytes_L105 (p3 + x6).toNatClampNeg)).toNatClampNeg)) (x6 + (1 : Int32))))) else (if o_this_L105.2.2.1 = 0 then (vp_in (p3 + x6) 2048 ∧ (vp_in (p4 + x6) 2048 ∧ (q_let (f_X8_compared o_this_L105 (r_this_bytes_L105 (p3 + x6).toNatClampNeg) (r_this_bytes_L105 (p4 + x6).toNatClampNeg)) fun w_31 => s_X8_doStrings_L105b p1 p2 p3 p4 fuel w_31 r_this_bytes_L105 (x6 + (1 : Int32))))) else s_X8_doStrings_L105b p1 p2 p3 p4 fuel o_this_L105 r_this_bytes_L105 (x6 + (1 : Int32))))))
def f_X8_doStrings_L105bb (r_this_one : Nat → Int32) (r_this_two : Nat → Int32) (p1 : Int32) (p2 : Int32) (p3 : Int32) (p4 : Int32) : Nat → (Int32 × Int32 × Int32 × Int32 × Bool × Bool × Int32 × Int32 × Int32 × Int32 × Bool × Bool × Bool × Int32 × Int32 × Int32 × Int32 × Int32 × Int32 × Int32 × Int32 × Int32 × Int32 × Int32 × Int32) → (Nat → Int32) → Int32 → (Int32 × Int32 × Int32 × Int32 × Bool × Bool × Int32 × Int32 × Int32 × Int32 × Bool × Bool × Bool × Int32 × Int32 × Int32 × Int32 × Int32 × Int32 × Int32 × Int32 × Int32 × Int32 × Int32 × Int32) × (Nat → Int32) × (Nat → Int32) × (Nat → Int32)
  | 0, o_this_L105, r_this_bytes_L105, x6 => (o_this_L105, r_this_bytes_L105, r_this_one, r_this_two)
  | fuel + 1, o_this_L105, r_this_bytes_L105, x6 => (if (p2 + (1 : Int32)) ≤ x6 then (o_this_L105, r_this_bytes_L105, r_this_one, r_this_two) else (if p1 = (210 : Int32) then f_X8_doStrings_L105bb r_this_one r_this_two p1 p2 p3 p4 fuel o_this_L105 (upd r_this_bytes_L105 (p3 + x6).toNatClampNeg (r_this_bytes_L105 (p4 + x6).toNatClampNeg)) (x6 + (1 : Int32)) else (if p1 = (220 : Int32) then f_X8_doStrings_L105bb r_this_one r_this_two p1 p2 p3 p4 fuel o_this_L105 (upd r_this_bytes_L105 (p3 + x6).toNatClampNeg (r_this_bytes_L105 (p4 + (r_this_bytes_L105 (p3 + x6).toNatClampNeg)).toNatClampNeg)) (x6 + (1 : Int32)) else (if o_this_L105.2.2.1 = 0 then (q_let (f_X8_compared o_this_L105 (r_this_bytes_L105 (p3 + x6).toNatClampNeg) (r_this_bytes_L105 (p4 + x6).toNatClampNeg)) fun w_48 => f_X8_doStrings_L105bb r_this_one r_this_two p1 p2 p3 p4 fuel w_48 r_this_bytes_L105 (x6 + (1 : Int32))) else f_X8_doStrings_L105bb r_this_one r_this_two p1 p2 p3 p4 fuel o_this_L105 r_this_bytes_L105 (x6 + (1 : Int32))))))
def s_X8_doStrings_L105bb (p1 : Int32) (p2 : Int32) (p3 : Int32) (p4 : Int32) : Nat → (Int32 × Int32 × Int32 × Int32 × Bool × Bool × Int32 × Int32 × Int32 × Int32 × Bool × Bool × Bool × Int32 × Int32 × Int32 × Int32 × Int32 × Int32 × Int32 × Int32 × Int32 × Int32 × Int32 × Int32) → (Nat → Int32) → Int32 → Prop
  | 0, _, _, _ => True
  | fuel + 1, o_this_L105, r_this_bytes_L105, x6 => (if (p2 + (1 : Int32)) ≤ x6 then True else (if p1 = (210 : Int32) then (vp_in (p4 + x6) 2048 ∧ (vp_in (p3 + x6) 2048 ∧ s_X8_doStrings_L105bb p1 p2 p3 p4 fuel o_this_L105 (upd r_this_bytes_L105 (p3 + x6).toNatClampNeg (r_this_bytes_L105 (p4 + x6).toNatClampNeg)) (x6 + (1 : Int32)))) else (if p1 = (220 : Int32) then (vp_in (p3 + x6) 2048 ∧ (vp_in (p4 + (r_this_bytes_L105 (p3 + x6).toNatClampNeg)) 2048 ∧ (vp_in (p3 + x6) 2048 ∧ s_X8_doStrings_L105bb p1 p2 p3 p4 fuel o_this_L105 (upd r_this_bytes_L105 (p3 + x6).toNatClampNeg (r_this_bytes_L105 (p4 + (r_this_bytes_L105 (p3 + x6).toNatClampNeg)).toNatClampNeg)) (x6 + (1 : Int32))))) else (if o_this_L105.2.2.1 = 0 then (vp_in (p3 + x6) 2048 ∧ (vp_in (p4 + x6) 2048 ∧ (q_let (f_X8_compared o_this_L105 (r_this_bytes_L105 (p3 + x6).toNatClampNeg) (r_this_bytes_L105 (p4 + x6).toNatClampNeg)) fun w_48 => s_X8_doStrings_L105bb p1 p2 p3 p4 fuel w_48 r_this_bytes_L105 (x6 + (1 : Int32))))) else s_X8_doStrings_L105bb p1 p2 p3 p4 fuel o_this_L105 r_this_bytes_L105 (x6 + (1 : Int32))))))
def f_X8_doStrings_L105bbb (r_this_one : Nat → Int32) (r_this_two : Nat → Int32) (p1 : Int32) (p2 : Int32) (p3 : Int32) (p4 : Int32) : Nat → (Int32 × Int32 × Int32 × Int32 × Bool × Bool × Int32 × Int32 × Int32 × Int32 × Bool × Bool × Bool × Int32 × Int32 × Int32 × Int32 × Int32 × Int32 × Int32 × Int32 × Int32 × Int32 × Int32 × Int32) → (Nat → Int32) → Int32 → (Int32 × Int32 × Int32 × Int32 × Bool × Bool × Int32 × Int32 × Int32 × Int32 × Bool × Bool × Bool × Int32 × Int32 × Int32 × Int32 × Int32 × Int32 × Int32 × Int32 × Int32 × Int32 × Int32 × Int32) × (Nat → Int32) × (Nat → Int32) × (Nat → Int32)
  | 0, o_this_L105, r_this_bytes_L105, x6 => (o_this_L105, r_this_bytes_L105, r_this_one, r_this_two)
  | fuel + 1, o_this_L105, r_this_bytes_L105, x6 => (if (p2 + (1 : Int32)) ≤ x6 then (o_this_L105, r_this_bytes_L105, r_this_one, r_this_two) else (if p1 = (210 : Int32) then f_X8_doStrings_L105bbb r_this_one r_this_two p1 p2 p3 p4 fuel o_this_L105 (upd r_this_bytes_L105 (p3 + x6).toNatClampNeg (r_this_bytes_L105 (p4 + x6).toNatClampNeg)) (x6 + (1 : Int32)) else (if p1 = (220 : Int32) then f_X8_doStrings_L105bbb r_this_one r_this_two p1 p2 p3 p4 fuel o_this_L105 (upd r_this_bytes_L105 (p3 + x6).toNatClampNeg (r_this_bytes_L105 (p4 + (r_this_bytes_L105 (p3 + x6).toNatClampNeg)).toNatClampNeg)) (x6 + (1 : Int32)) else (if o_this_L105.2.2.1 = 0 then (q_let (f_X8_compared o_this_L105 (r_this_bytes_L105 (p3 + x6).toNatClampNeg) (r_this_bytes_L105 (p4 + x6).toNatClampNeg)) fun w_61 => f_X8_doStrings_L105bbb r_this_one r_this_two p1 p2 p3 p4 fuel w_61 r_this_bytes_L105 (x6 + (1 : Int32))) else f_X8_doStrings_L105bbb r_this_one r_this_two p1 p2 p3 p4 fuel o_this_L105 r_this_bytes_L105 (x6 + (1 : Int32))))))
def s_X8_doStrings_L105bbb (p1 : Int32) (p2 : Int32) (p3 : Int32) (p4 : Int32) : Nat → (Int32 × Int32 × Int32 × Int32 × Bool × Bool × Int32 × Int32 × Int32 × Int32 × Bool × Bool × Bool × Int32 × Int32 × Int32 × Int32 × Int32 × Int32 × Int32 × Int32 × Int32 × Int32 × Int32 × Int32) → (Nat → Int32) → Int32 → Prop
  | 0, _, _, _ => True
  | fuel + 1, o_this_L105, r_this_bytes_L105, x6 => (if (p2 + (1 : Int32)) ≤ x6 then True else (if p1 = (210 : Int32) then (vp_in (p4 + x6) 2048 ∧ (vp_in (p3 + x6) 2048 ∧ s_X8_doStrings_L105bbb p1 p2 p3 p4 fuel o_this_L105 (upd r_this_bytes_L105 (p3 + x6).toNatClampNeg (r_this_bytes_L105 (p4 + x6).toNatClampNeg)) (x6 + (1 : Int32)))) else (if p1 = (220 : Int32) then (vp_in (p3 + x6) 2048 ∧ (vp_in (p4 + (r_this_bytes_L105 (p3 + x6).toNatClampNeg)) 2048 ∧ (vp_in (p3 + x6) 2048 ∧ s_X8_doStrings_L105bbb p1 p2 p3 p4 fuel o_this_L105 (upd r_this_bytes_L105 (p3 + x6).toNatClampNeg (r_this_bytes_L105 (p4 + (r_this_bytes_L105 (p3 + x6).toNatClampNeg)).toNatClampNeg)) (x6 + (1 : Int32))))) else (if o_this_L105.2.2.1 = 0 then (vp_in (p3 + x6) 2048 ∧ (vp_in (p4 + x6) 2048 ∧ (q_let (f_X8_compared o_this_L105 (r_this_bytes_L105 (p3 + x6).toNatClampNeg) (r_this_bytes_L105 (p4 + x6).toNatClampNeg)) fun w_61 => s_X8_doStrings_L105bbb p1 p2 p3 p4 fuel w_61 r_this_bytes_L105 (x6 + (1 : Int32))))) else s_X8_doStrings_L105bbb p1 p2 p3 p4 fuel o_this_L105 r_this_bytes_L105 (x6 + (1 : Int32))))))
def f_X8_doStrings_L105bbbb (r_this_one : Nat → Int32) (r_this_two : Nat → Int32) (p1 : Int32) (p2 : Int32) (p3 : Int32) (p4 : Int32) : Nat → (Int32 × Int32 × Int32 × Int32 × Bool × Bool × Int32 × Int32 × Int32 × Int32 × Bool × Bool × Bool × Int32 × Int32 × Int32 × Int32 × Int32 × Int32 × Int32 × Int32 × Int32 × Int32 × Int32 × Int32) → (Nat → Int32) → Int32 → (Int32 × Int32 × Int32 × Int32 × Bool × Bool × Int32 × Int32 × Int32 × Int32 × Bool × Bool × Bool × Int32 × Int32 × Int32 × Int32 × Int32 × Int32 × Int32 × Int32 × Int32 × Int32 × Int32 × Int32) × (Nat → Int32) × (Nat → Int32) × (Nat → Int32)
  | 0, o_this_L105, r_this_bytes_L105, x6 => (o_this_L105, r_this_bytes_L105, r_this_one, r_this_two)
  | fuel + 1, o_this_L105, r_this_bytes_L105, x6 => (if (p2 + (1 : Int32)) ≤ x6 then (o_this_L105, r_this_bytes_L105, r_this_one, r_this_two) else (if p1 = (210 : Int32) then f_X8_doStrings_L105bbbb r_this_one r_this_two p1 p2 p3 p4 fuel o_this_L105 (upd r_this_bytes_L105 (p3 + x6).toNatClampNeg (r_this_bytes_L105 (p4 + x6).toNatClampNeg)) (x6 + (1 : Int32)) else (if p1 = (220 : Int32) then f_X8_doStrings_L105bbbb r_this_one r_this_two p1 p2 p3 p4 fuel o_this_L105 (upd r_this_bytes_L105 (p3 + x6).toNatClampNeg (r_this_bytes_L105 (p4 + (r_this_bytes_L105 (p3 + x6).toNatClampNeg)).toNatClampNeg)) (x6 + (1 : Int32)) else (if o_this_L105.2.2.1 = 0 then (q_let (f_X8_compared o_this_L105 (r_this_bytes_L105 (p3 + x6).toNatClampNeg) (r_this_bytes_L105 (p4 + x6).toNatClampNeg)) fun w_82 => f_X8_doStrings_L105bbbb r_this_one r_this_two p1 p2 p3 p4 fuel w_82 r_this_bytes_L105 (x6 + (1 : Int32))) else f_X8_doStrings_L105bbbb r_this_one r_this_two p1 p2 p3 p4 fuel o_this_L105 r_this_bytes_L105 (x6 + (1 : Int32))))))
def s_X8_doStrings_L105bbbb (p1 : Int32) (p2 : Int32) (p3 : Int32) (p4 : Int32) : Nat → (Int32 × Int32 × Int32 × Int32 × Bool × Bool × Int32 × Int32 × Int32 × Int32 × Bool × Bool × Bool × Int32 × Int32 × Int32 × Int32 × Int32 × Int32 × Int32 × Int32 × Int32 × Int32 × Int32 × Int32) → (Nat → Int32) → Int32 → Prop
  | 0, _, _, _ => True
  | fuel + 1, o_this_L105, r_this_bytes_L105, x6 => (if (p2 + (1 : Int32)) ≤ x6 then True else (if p1 = (210 : Int32) then (vp_in (p4 + x6) 2048 ∧ (vp_in (p3 + x6) 2048 ∧ s_X8_doStrings_L105bbbb p1 p2 p3 p4 fuel o_this_L105 (upd r_this_bytes_L105 (p3 + x6).toNatClampNeg (r_this_bytes_L105 (p4 + x6).toNatClampNeg)) (x6 + (1 : Int32)))) else (if p1 = (220 : Int32) then (vp_in (p3 + x6) 2048 ∧ (vp_in (p4 + (r_this_bytes_L105 (p3 + x6).toNatClampNeg)) 2048 ∧ (vp_in (p3 + x6) 2048 ∧ s_X8_doStrings_L105bbbb p1 p2 p3 p4 fuel o_this_L105 (upd r_this_bytes_L105 (p3 + x6).toNatClampNeg (r_this_bytes_L105 (p4 + (r_this_bytes_L105 (p3 + x6).toNatClampNeg)).toNatClampNeg)) (x6 + (1 : Int32))))) else (if o_this_L105.2.2.1 = 0 then (vp_in (p3 + x6) 2048 ∧ (vp_in (p4 + x6) 2048 ∧ (q_let (f_X8_compared o_this_L105 (r_this_bytes_L105 (p3 + x6).toNatClampNeg) (r_this_bytes_L105 (p4 + x6).toNatClampNeg)) fun w_82 => s_X8_doStrings_L105bbbb p1 p2 p3 p4 fuel w_82 r_this_bytes_L105 (x6 + (1 : Int32))))) else s_X8_doStrings_L105bbbb p1 p2 p3 p4 fuel o_this_L105 r_this_bytes_L105 (x6 + (1 : Int32))))))
def f_X8_doStrings_L105bbbbb (r_this_one : Nat → Int32) (r_this_two : Nat → Int32) (p1 : Int32) (p2 : Int32) (p3 : Int32) (p4 : Int32) : Nat → (Int32 × Int32 × Int32 × Int32 × Bool × Bool × Int32 × Int32 × Int32 × Int32 × Bool × Bool × Bool × Int32 × Int32 × Int32 × Int32 × Int32 × Int32 × Int32 × Int32 × Int32 × Int32 × Int32 × Int32) → (Nat → Int32) → Int32 → (Int32 × Int32 × Int32 × Int32 × Bool × Bool × Int32 × Int32 × Int32 × Int32 × Bool × Bool × Bool × Int32 × Int32 × Int32 × Int32 × Int32 × Int32 × Int32 × Int32 × Int32 × Int32 × Int32 × Int32) × (Nat → Int32) × (Nat → Int32) × (Nat → Int32)
  | 0, o_this_L105, r_this_bytes_L105, x6 => (o_this_L105, r_this_bytes_L105, r_this_one, r_this_two)
  | fuel + 1, o_this_L105, r_this_bytes_L105, x6 => (if (p2 + (1 : Int32)) ≤ x6 then (o_this_L105, r_this_bytes_L105, r_this_one, r_this_two) else (if p1 = (210 : Int32) then f_X8_doStrings_L105bbbbb r_this_one r_this_two p1 p2 p3 p4 fuel o_this_L105 (upd r_this_bytes_L105 (p3 + x6).toNatClampNeg (r_this_bytes_L105 (p4 + x6).toNatClampNeg)) (x6 + (1 : Int32)) else (if p1 = (220 : Int32) then f_X8_doStrings_L105bbbbb r_this_one r_this_two p1 p2 p3 p4 fuel o_this_L105 (upd r_this_bytes_L105 (p3 + x6).toNatClampNeg (r_this_bytes_L105 (p4 + (r_this_bytes_L105 (p3 + x6).toNatClampNeg)).toNatClampNeg)) (x6 + (1 : Int32)) else (if o_this_L105.2.2.1 = 0 then (q_let (f_X8_compared o_this_L105 (r_this_bytes_L105 (p3 + x6).toNatClampNeg) (r_this_bytes_L105 (p4 + x6).toNatClampNeg)) fun w_95 => f_X8_doStrings_L105bbbbb r_this_one r_this_two p1 p2 p3 p4 fuel w_95 r_this_bytes_L105 (x6 + (1 : Int32))) else f_X8_doStrings_L105bbbbb r_this_one r_this_two p1 p2 p3 p4 fuel o_this_L105 r_this_bytes_L105 (x6 + (1 : Int32))))))
def s_X8_doStrings_L105bbbbb (p1 : Int32) (p2 : Int32) (p3 : Int32) (p4 : Int32) : Nat → (Int32 × Int32 × Int32 × Int32 × Bool × Bool × Int32 × Int32 × Int32 × Int32 × Bool × Bool × Bool × Int32 × Int32 × Int32 × Int32 × Int32 × Int32 × Int32 × Int32 × Int32 × Int32 × Int32 × Int32) → (Nat → Int32) → Int32 → Prop
  | 0, _, _, _ => True
  | fuel + 1, o_this_L105, r_this_bytes_L105, x6 => (if (p2 + (1 : Int32)) ≤ x6 then True else (if p1 = (210 : Int32) then (vp_in (p4 + x6) 2048 ∧ (vp_in (p3 + x6) 2048 ∧ s_X8_doStrings_L105bbbbb p1 p2 p3 p4 fuel o_this_L105 (upd r_this_bytes_L105 (p3 + x6).toNatClampNeg (r_this_bytes_L105 (p4 + x6).toNatClampNeg)) (x6 + (1 : Int32)))) else (if p1 = (220 : Int32) then (vp_in (p3 + x6) 2048 ∧ (vp_in (p4 + (r_this_bytes_L105 (p3 + x6).toNatClampNeg)) 2048 ∧ (vp_in (p3 + x6) 2048 ∧ s_X8_doStrings_L105bbbbb p1 p2 p3 p4 fuel o_this_L105 (upd r_this_bytes_L105 (p3 + x6).toNatClampNeg (r_this_bytes_L105 (p4 + (r_this_bytes_L105 (p3 + x6).toNatClampNeg)).toNatClampNeg)) (x6 + (1 : Int32))))) else (if o_this_L105.2.2.1 = 0 then (vp_in (p3 + x6) 2048 ∧ (vp_in (p4 + x6) 2048 ∧ (q_let (f_X8_compared o_this_L105 (r_this_bytes_L105 (p3 + x6).toNatClampNeg) (r_this_bytes_L105 (p4 + x6).toNatClampNeg)) fun w_95 => s_X8_doStrings_L105bbbbb p1 p2 p3 p4 fuel w_95 r_this_bytes_L105 (x6 + (1 : Int32))))) else s_X8_doStrings_L105bbbbb p1 p2 p3 p4 fuel o_this_L105 r_this_bytes_L105 (x6 + (1 : Int32))))))
def f_X8_doStrings_L105bbbbbb (r_this_one : Nat → Int32) (r_this_two : Nat → Int32) (p1 : Int32) (p2 : Int32) (p3 : Int32) (p4 : Int32) : Nat → (Int32 × Int32 × Int32 × Int32 × Bool × Bool × Int32 × Int32 × Int32 × Int32 × Bool × Bool × Bool × Int32 × Int32 × Int32 × Int32 × Int32 × Int32 × Int32 × Int32 × Int32 × Int32 × Int32 × Int32) → (Nat → Int32) → Int32 → (Int32 × Int32 × Int32 × Int32 × Bool × Bool × Int32 × Int32 × Int32 × Int32 × Bool × Bool × Bool × Int32 × Int32 × Int32 × Int32 × Int32 × Int32 × Int32 × Int32 × Int32 × Int32 × Int32 × Int32) × (Nat → Int32) × (Nat → Int32) × (Nat → Int32)
  | 0, o_this_L105, r_this_bytes_L105, x6 => (o_this_L105, r_this_bytes_L105, r_this_one, r_this_two)
  | fuel + 1, o_this_L105, r_this_bytes_L105, x6 => (if (p2 + (1 : Int32)) ≤ x6 then (o_this_L105, r_this_bytes_L105, r_this_one, r_this_two) else (if p1 = (210 : Int32) then f_X8_doStrings_L105bbbbbb r_this_one r_this_two p1 p2 p3 p4 fuel o_this_L105 (upd r_this_bytes_L105 (p3 + x6).toNatClampNeg (r_this_bytes_L105 (p4 + x6).toNatClampNeg)) (x6 + (1 : Int32)) else (if p1 = (220 : Int32) then f_X8_doStrings_L105bbbbbb r_this_one r_this_two p1 p2 p3 p4 fuel o_this_L105 (upd r_this_bytes_L105 (p3 + x6).toNatClampNeg (r_this_bytes_L105 (p4 + (r_this_bytes_L105 (p3 + x6).toNatClampNeg)).toNatClampNeg)) (x6 + (1 : Int32)) else (if o_this_L105.2.2.1 = 0 then (q_let (f_X8_compared o_this_L105 (r_this_bytes_L105 (p3 + x6).toNatClampNeg) (r_this_bytes_L105 (p4 + x6).toNatClampNeg)) fun w_112 => f_X8_doStrings_L105bbbbbb r_this_one r_this_two p1 p2 p3 p4 fuel w_112 r_this_bytes_L105 (x6 + (1 : Int32))) else f_X8_doStrings_L105bbbbbb r_this_one r_this_two p1 p2 p3 p4 fuel o_this_L105 r_this_bytes_L105 (x6 + (1 : Int32))))))
def s_X8_doStrings_L105bbbbbb (p1 : Int32) (p2 : Int32) (p3 : Int32) (p4 : Int32) : Nat → (Int32 × Int32 × Int32 × Int32 × Bool × Bool × Int32 × Int32 × Int32 × Int32 × Bool × Bool × Bool × Int32 × Int32 × Int32 × Int32 × Int32 × Int32 × Int32 × Int32 × Int32 × Int32 × Int32 × Int32) → (Nat → Int32) → Int32 → Prop
  | 0, _, _, _ => True
  | fuel + 1, o_this_L105, r_this_bytes_L105, x6 => (if (p2 + (1 : Int32)) ≤ x6 then True else (if p1 = (210 : Int32) then (vp_in (p4 + x6) 2048 ∧ (vp_in (p3 + x6) 2048 ∧ s_X8_doStrings_L105bbbbbb p1 p2 p3 p4 fuel o_this_L105 (upd r_this_bytes_L105 (p3 + x6).toNatClampNeg (r_this_bytes_L105 (p4 + x6).toNatClampNeg)) (x6 + (1 : Int32)))) else (if p1 = (220 : Int32) then (vp_in (p3 + x6) 2048 ∧ (vp_in (p4 + (r_this_bytes_L105 (p3 + x6).toNatClampNeg)) 2048 ∧ (vp_in (p3 + x6) 2048 ∧ s_X8_doStrings_L105bbbbbb p1 p2 p3 p4 fuel o_this_L105 (upd r_this_bytes_L105 (p3 + x6).toNatClampNeg (r_this_bytes_L105 (p4 + (r_this_bytes_L105 (p3 + x6).toNatClampNeg)).toNatClampNeg)) (x6 + (1 : Int32))))) else (if o_this_L105.2.2.1 = 0 then (vp_in (p3 + x6) 2048 ∧ (vp_in (p4 + x6) 2048 ∧ (q_let (f_X8_compared o_this_L105 (r_this_bytes_L105 (p3 + x6).toNatClampNeg) (r_this_bytes_L105 (p4 + x6).toNatClampNeg)) fun w_112 => s_X8_doStrings_L105bbbbbb p1 p2 p3 p4 fuel w_112 r_this_bytes_L105 (x6 + (1 : Int32))))) else s_X8_doStrings_L105bbbbbb p1 p2 p3 p4 fuel o_this_L105 r_this_bytes_L105 (x6 + (1 : Int32))))))
def f_X8_doStrings_L105bbbbbbb (r_this_one : Nat → Int32) (r_this_two : Nat → Int32) (p1 : Int32) (p2 : Int32) (p3 : Int32) (p4 : Int32) : Nat → (Int32 × Int32 × Int32 × Int32 × Bool × Bool × Int32 × Int32 × Int32 × Int32 × Bool × Bool × Bool × Int32 × Int32 × Int32 × Int32 × Int32 × Int32 × Int32 × Int32 × Int32 × Int32 × Int32 × Int32) → (Nat → Int32) → Int32 → (Int32 × Int32 × Int32 × Int32 × Bool × Bool × Int32 × Int32 × Int32 × Int32 × Bool × Bool × Bool × Int32 × Int32 × Int32 × Int32 × Int32 × Int32 × Int32 × Int32 × Int32 × Int32 × Int32 × Int32) × (Nat → Int32) × (Nat → Int32) × (Nat → Int32)
  | 0, o_this_L105, r_this_bytes_L105, x6 => (o_this_L105, r_this_bytes_L105, r_this_one, r_this_two)
  | fuel + 1, o_this_L105, r_this_bytes_L105, x6 => (if (p2 + (1 : Int32)) ≤ x6 then (o_this_L105, r_this_bytes_L105, r_this_one, r_this_two) else (if p1 = (210 : Int32) then f_X8_doStrings_L105bbbbbbb r_this_one r_this_two p1 p2 p3 p4 fuel o_this_L105 (upd r_this_bytes_L105 (p3 + x6).toNatClampNeg (r_this_bytes_L105 (p4 + x6).toNatClampNeg)) (x6 + (1 : Int32)) else (if p1 = (220 : Int32) then f_X8_doStrings_L105bbbbbbb r_this_one r_this_two p1 p2 p3 p4 fuel o_this_L105 (upd r_this_bytes_L105 (p3 + x6).toNatClampNeg (r_this_bytes_L105 (p4 + (r_this_bytes_L105 (p3 + x6).toNatClampNeg)).toNatClampNeg)) (x6 + (1 : Int32)) else (if o_this_L105.2.2.1 = 0 then (q_let (f_X8_compared o_this_L105 (r_this_bytes_L105 (p3 + x6).toNatClampNeg) (r_this_bytes_L105 (p4 + x6).toNatClampNeg)) fun w_125 => f_X8_doStrings_L105bbbbbbb r_this_one r_this_two p1 p2 p3 p4 fuel w_125 r_this_bytes_L105 (x6 + (1 : Int32))) else f_X8_doStrings_L105bbbbbbb r_this_one r_this_two p1 p2 p3 p4 fuel o_this_L105 r_this_bytes_L105 (x6 + (1 : Int32))))))
def s_X8_doStrings_L105bbbbbbb (p1 : Int32) (p2 : Int32) (p3 : Int32) (p4 : Int32) : Nat → (Int32 × Int32 × Int32 × Int32 × Bool × Bool × Int32 × Int32 × Int32 × Int32 × Bool × Bool × Bool × Int32 × Int32 × Int32 × Int32 × Int32 × Int32 × Int32 × Int32 × Int32 × Int32 × Int32 × Int32) → (Nat → Int32) → Int32 → Prop
  | 0, _, _, _ => True
  | fuel + 1, o_this_L105, r_this_bytes_L105, x6 => (if (p2 + (1 : Int32)) ≤ x6 then True else (if p1 = (210 : Int32) then (vp_in (p4 + x6) 2048 ∧ (vp_in (p3 + x6) 2048 ∧ s_X8_doStrings_L105bbbbbbb p1 p2 p3 p4 fuel o_this_L105 (upd r_this_bytes_L105 (p3 + x6).toNatClampNeg (r_this_bytes_L105 (p4 + x6).toNatClampNeg)) (x6 + (1 : Int32)))) else (if p1 = (220 : Int32) then (vp_in (p3 + x6) 2048 ∧ (vp_in (p4 + (r_this_bytes_L105 (p3 + x6).toNatClampNeg)) 2048 ∧ (vp_in (p3 + x6) 2048 ∧ s_X8_doStrings_L105bbbbbbb p1 p2 p3 p4 fuel o_this_L105 (upd r_this_bytes_L105 (p3 + x6).toNatClampNeg (r_this_bytes_L105 (p4 + (r_this_bytes_L105 (p3 + x6).toNatClampNeg)).toNatClampNeg)) (x6 + (1 : Int32))))) else (if o_this_L105.2.2.1 = 0 then (vp_in (p3 + x6) 2048 ∧ (vp_in (p4 + x6) 2048 ∧ (q_let (f_X8_compared o_this_L105 (r_this_bytes_L105 (p3 + x6).toNatClampNeg) (r_this_bytes_L105 (p4 + x6).toNatClampNeg)) fun w_125 => s_X8_doStrings_L105bbbbbbb p1 p2 p3 p4 fuel w_125 r_this_bytes_L105 (x6 + (1 : Int32))))) else s_X8_doStrings_L105bbbbbbb p1 p2 p3 p4 fuel o_this_L105 r_this_bytes_L105 (x6 + (1 : Int32))))))
def f_X8_doStrings (o_this : Int32 × Int32 × Int32 × Int32 × Bool × Bool × Int32 × Int32 × Int32 × Int32 × Bool × Bool × Bool × Int32 × Int32 × Int32 × Int32 × Int32 × Int32 × Int32 × Int32 × Int32 × Int32 × Int32 × Int32) (r_this_bytes : Nat → Int32) (r_this_keys : Nat → Int32) (r_this_one : Nat → Int32) (r_this_two : Nat → Int32) (p1 : Int32) (p2 : Int32) (p3 : Int32) (p4 : Int32) : (Int32 × Int32 × Int32 × Int32 × Bool × Bool × Int32 × Int32 × Int32 × Int32 × Bool × Bool × Bool × Int32 × Int32 × Int32 × Int32 × Int32 × Int32 × Int32 × Int32 × Int32 × Int32 × Int32 × Int32) × (Nat → Int32) × (Nat → Int32) × (Nat → Int32) := (if p1 ≤ (247 : Int32) then (if p1 = (213 : Int32) then (q_let (f_X8_good o_this r_this_keys p3 (p2 + (1 : Int32)) 1 false) fun w_4 => (if w_4.1 = true then (if p1 = (220 : Int32) then (q_let (f_X8_good w_4.2 r_this_keys p4 256 1 false) fun w_38 => (if w_38.1 = true then (if p1 = (213 : Int32) then f_X8_doStrings_L105bbb r_this_one r_this_two p1 p2 p3 p4 ((((p2 + (1 : Int32)) : Int32).toInt - (0 : Int32).toInt).toNat + 1) (w_38.2.1, w_38.2.2.1, 0, w_38.2.2.2.2.1, w_38.2.2.2.2.2.1, w_38.2.2.2.2.2.2.1, w_38.2.2.2.2.2.2.2.1, w_38.2.2.2.2.2.2.2.2.1, w_38.2.2.2.2.2.2.2.2.2.1, w_38.2.2.2.2.2.2.2.2.2.2.1, w_38.2.2.2.2.2.2.2.2.2.2.2.1, w_38.2.2.2.2.2.2.2.2.2.2.2.2.1, w_38.2.2.2.2.2.2.2.2.2.2.2.2.2.1, w_38.2.2.2.2.2.2.2.2.2.2.2.2.2.2.1, w_38.2.2.2.2.2.2.2.2.2.2.2.2.2.2.2.1, w_38.2.2.2.2.2.2.2.2.2.2.2.2.2.2.2.2.1, w_38.2.2.2.2.2.2.2.2.2.2.2.2.2.2.2.2.2.1, w_38.2.2.2.2.2.2.2.2.2.2.2.2.2.2.2.2.2.2.1, w_38.2.2.2.2.2.2.2.2.2.2.2.2.2.2.2.2.2.2.2.1, w_38.2.2.2.2.2.2.2.2.2.2.2.2.2.2.2.2.2.2.2.2.1, w_38.2.2.2.2.2.2.2.2.2.2.2.2.2.2.2.2.2.2.2.2.2.1, w_38.2.2.2.2.2.2.2.2.2.2.2.2.2.2.2.2.2.2.2.2.2.2.1, w_38.2.2.2.2.2.2.2.2.2.2.2.2.2.2.2.2.2.2.2.2.2.2.2.1, w_38.2.2.2.2.2.2.2.2.2.2.2.2.2.2.2.2.2.2.2.2.2.2.2.2.1, w_38.2.2.2.2.2.2.2.2.2.2.2.2.2.2.2.2.2.2.2.2.2.2.2.2.2) r_this_bytes 0 else f_X8_doStrings_L105bb r_this_one r_this_two p1 p2 p3 p4 ((((p2 + (1 : Int32)) : Int32).toInt - (0 : Int32).toInt).toNat + 1) w_38.2 r_this_bytes 0) else (w_38.2, r_this_bytes, r_this_one, r_this_two))) else (q_let (f_X8_good w_4.2 r_this_keys p4 (p2 + (1 : Int32)) 1 false) fun w_8 => (if w_8.1 = true then (if p1 = (213 : Int32) then f_X8_doStrings_L105b r_this_one r_this_two p1 p2 p3 p4 ((((p2 + (1 : Int32)) : Int32).toInt - (0 : Int32).toInt).toNat + 1) (w_8.2.1, w_8.2.2.1, 0, w_8.2.2.2.2.1, w_8.2.2.2.2.2.1, w_8.2.2.2.2.2.2.1, w_8.2.2.2.2.2.2.2.1, w_8.2.2.2.2.2.2.2.2.1, w_8.2.2.2.2.2.2.2.2.2.1, w_8.2.2.2.2.2.2.2.2.2.2.1, w_8.2.2.2.2.2.2.2.2.2.2.2.1, w_8.2.2.2.2.2.2.2.2.2.2.2.2.1, w_8.2.2.2.2.2.2.2.2.2.2.2.2.2.1, w_8.2.2.2.2.2.2.2.2.2.2.2.2.2.2.1, w_8.2.2.2.2.2.2.2.2.2.2.2.2.2.2.2.1, w_8.2.2.2.2.2.2.2.2.2.2.2.2.2.2.2.2.1, w_8.2.2.2.2.2.2.2.2.2.2.2.2.2.2.2.2.2.1, w_8.2.2.2.2.2.2.2.2.2.2.2.2.2.2.2.2.2.2.1, w_8.2.2.2.2.2.2.2.2.2.2.2.2.2.2.2.2.2.2.2.1, w_8.2.2.2.2.2.2.2.2.2.2.2.2.2.2.2.2.2.2.2.2.1, w_8.2.2.2.2.2.2.2.2.2.2.2.2.2.2.2.2.2.2.2.2.2.1, w_8.2.2.2.2.2.2.2.2.2.2.2.2.2.2.2.2.2.2.2.2.2.2.1, w_8.2.2.2.2.2.2.2.2.2.2.2.2.2.2.2.2.2.2.2.2.2.2.2.1, w_8.2.2.2.2.2.2.2.2.2.2.2.2.2.2.2.2.2.2.2.2.2.2.2.2.1, w_8.2.2.2.2.2.2.2.2.2.2.2.2.2.2.2.2.2.2.2.2.2.2.2.2.2) r_this_bytes 0 else f_X8_doStrings_L105 r_this_one r_this_two p1 p2 p3 p4 ((((p2 + (1 : Int32)) : Int32).toInt - (0 : Int32).toInt).toNat + 1) w_8.2 r_this_bytes 0) else (w_8.2, r_this_bytes, r_this_one, r_this_two)))) else (w_4.2, r_this_bytes, r_this_one, r_this_two))) else (q_let (f_X8_good o_this r_this_keys p3 (p2 + (1 : Int32)) 1 true) fun w_68 => (if w_68.1 = true then (if p1 = (220 : Int32) then (q_let (f_X8_good w_68.2 r_this_keys p4 256 1 false) fun w_102 => (if w_102.1 = true then (if p1 = (213 : Int32) then f_X8_doStrings_L105bbbbbbb r_this_one r_this_two p1 p2 p3 p4 ((((p2 + (1 : Int32)) : Int32).toInt - (0 : Int32).toInt).toNat + 1) (w_102.2.1, w_102.2.2.1, 0, w_102.2.2.2.2.1, w_102.2.2.2.2.2.1, w_102.2.2.2.2.2.2.1, w_102.2.2.2.2.2.2.2.1, w_102.2.2.2.2.2.2.2.2.1, w_102.2.2.2.2.2.2.2.2.2.1, w_102.2.2.2.2.2.2.2.2.2.2.1, w_102.2.2.2.2.2.2.2.2.2.2.2.1, w_102.2.2.2.2.2.2.2.2.2.2.2.2.1, w_102.2.2.2.2.2.2.2.2.2.2.2.2.2.1, w_102.2.2.2.2.2.2.2.2.2.2.2.2.2.2.1, w_102.2.2.2.2.2.2.2.2.2.2.2.2.2.2.2.1, w_102.2.2.2.2.2.2.2.2.2.2.2.2.2.2.2.2.1, w_102.2.2.2.2.2.2.2.2.2.2.2.2.2.2.2.2.2.1, w_102.2.2.2.2.2.2.2.2.2.2.2.2.2.2.2.2.2.2.1, w_102.2.2.2.2.2.2.2.2.2.2.2.2.2.2.2.2.2.2.2.1, w_102.2.2.2.2.2.2.2.2.2.2.2.2.2.2.2.2.2.2.2.2.1, w_102.2.2.2.2.2.2.2.2.2.2.2.2.2.2.2.2.2.2.2.2.2.1, w_102.2.2.2.2.2.2.2.2.2.2.2.2.2.2.2.2.2.2.2.2.2.2.1, w_102.2.2.2.2.2.2.2.2.2.2.2.2.2.2.2.2.2.2.2.2.2.2.2.1, w_102.2.2.2.2.2.2.2.2.2.2.2.2.2.2.2.2.2.2.2.2.2.2.2.2.1, w_102.2.2.2.2.2.2.2.2.2.2.2.2.2.2.2.2.2.2.2.2.2.2.2.2.2) r_this_bytes 0 else f_X8_doStrings_L105bbbbbb r_this_one r_this_two p1 p2 p3 p4 ((((p2 + (1 : Int32)) : Int32).toInt - (0 : Int32).toInt).toNat + 1) w_102.2 r_this_bytes 0) else (w_102.2, r_this_bytes, r_this_one, r_this_two))) else (q_let (f_X8_good w_68.2 r_this_keys p4 (p2 + (1 : Int32)) 1 false) fun w_72 => (if w_72.1 = true then (if p1 = (213 : Int32) then f_X8_doStrings_L105bbbbb r_this_one r_this_two p1 p2 p3 p4 ((((p2 + (1 : Int32)) : Int32).toInt - (0 : Int32).toInt).toNat + 1) (w_72.2.1, w_72.2.2.1, 0, w_72.2.2.2.2.1, w_72.2.2.2.2.2.1, w_72.2.2.2.2.2.2.1, w_72.2.2.2.2.2.2.2.1, w_72.2.2.2.2.2.2.2.2.1, w_72.2.2.2.2.2.2.2.2.2.1, w_72.2.2.2.2.2.2.2.2.2.2.1, w_72.2.2.2.2.2.2.2.2.2.2.2.1, w_72.2.2.2.2.2.2.2.2.2.2.2.2.1, w_72.2.2.2.2.2.2.2.2.2.2.2.2.2.1, w_72.2.2.2.2.2.2.2.2.2.2.2.2.2.2.1, w_72.2.2.2.2.2.2.2.2.2.2.2.2.2.2.2.1, w_72.2.2.2.2.2.2.2.2.2.2.2.2.2.2.2.2.1, w_72.2.2.2.2.2.2.2.2.2.2.2.2.2.2.2.2.2.1, w_72.2.2.2.2.2.2.2.2.2.2.2.2.2.2.2.2.2.2.1, w_72.2.2.2.2.2.2.2.2.2.2.2.2.2.2.2.2.2.2.2.1, w_72.2.2.2.2.2.2.2.2.2.2.2.2.2.2.2.2.2.2.2.2.1, w_72.2.2.2.2.2.2.2.2.2.2.2.2.2.2.2.2.2.2.2.2.2.1, w_72.2.2.2.2.2.2.2.2.2.2.2.2.2.2.2.2.2.2.2.2.2.2.1, w_72.2.2.2.2.2.2.2.2.2.2.2.2.2.2.2.2.2.2.2.2.2.2.2.1, w_72.2.2.2.2.2.2.2.2.2.2.2.2.2.2.2.2.2.2.2.2.2.2.2.2.1, w_72.2.2.2.2.2.2.2.2.2.2.2.2.2.2.2.2.2.2.2.2.2.2.2.2.2) r_this_bytes 0 else f_X8_doStrings_L105bbbb r_this_one r_this_two p1 p2 p3 p4 ((((p2 + (1 : Int32)) : Int32).toInt - (0 : Int32).toInt).toNat + 1) w_72.2 r_this_bytes 0) else (w_72.2, r_this_bytes, r_this_one, r_this_two)))) else (w_68.2, r_this_bytes, r_this_one, r_this_two)))) else (q_let (f_X8_decimal o_this r_this_bytes r_this_keys r_this_one r_this_two p1 p3 ((p2 / (16 : Int32)) + (1 : Int32)) p4 ((p2 - p2 / (16 : Int32) * (16 : Int32)) + (1 : Int32))) fun w_132 => (w_132.1, w_132.2.1, w_132.2.2.1, w_132.2.2.2)))
def s_X8_doStrings (o_this : Int32 × Int32 × Int32 × Int32 × Bool × Bool × Int32 × Int32 × Int32 × Int32 × Bool × Bool × Bool × Int32 × Int32 × Int32 × Int32 × Int32 × Int32 × Int32 × Int32 × Int32 × Int32 × Int32 × Int32) (r_this_bytes : Nat → Int32) (r_this_keys : Nat → Int32) (r_this_one : Nat → Int32) (r_this_two : Nat → Int32) (p1 : Int32) (p2 : Int32) (p3 : Int32) (p4 : Int32) : Prop := (if p1 ≤ (247 : Int32) then (if p1 = (213 : Int32) then (s_X8_good o_this r_this_keys p3 (p2 + (1 : Int32)) 1 false ∧ (q_let (f_X8_good o_this r_this_keys p3 (p2 + (1 : Int32)) 1 false) fun w_4 => (if w_4.1 = true then (if p1 = (220 : Int32) then (s_X8_good w_4.2 r_this_keys p4 256 1 false ∧ (q_let (f_X8_good w_4.2 r_this_keys p4 256 1 false) fun w_38 => (if w_38.1 = true then (if p1 = (213 : Int32) then s_X8_doStrings_L105bbb p1 p2 p3 p4 ((((p2 + (1 : Int32)) : Int32).toInt - (0 : Int32).toInt).toNat + 1) (w_38.2.1, w_38.2.2.1, 0, w_38.2.2.2.2.1, w_38.2.2.2.2.2.1, w_38.2.2.2.2.2.2.1, w_38.2.2.2.2.2.2.2.1, w_38.2.2.2.2.2.2.2.2.1, w_38.2.2.2.2.2.2.2.2.2.1, w_38.2.2.2.2.2.2.2.2.2.2.1, w_38.2.2.2.2.2.2.2.2.2.2.2.1, w_38.2.2.2.2.2.2.2.2.2.2.2.2.1, w_38.2.2.2.2.2.2.2.2.2.2.2.2.2.1, w_38.2.2.2.2.2.2.2.2.2.2.2.2.2.2.1, w_38.2.2.2.2.2.2.2.2.2.2.2.2.2.2.2.1, w_38.2.2.2.2.2.2.2.2.2.2.2.2.2.2.2.2.1, w_38.2.2.2.2.2.2.2.2.2.2.2.2.2.2.2.2.2.1, w_38.2.2.2.2.2.2.2.2.2.2.2.2.2.2.2.2.2.2.1, w_38.2.2.2.2.2.2.2.2.2.2.2.2.2.2.2.2.2.2.2.1, w_38.2.2.2.2.2.2.2.2.2.2.2.2.2.2.2.2.2.2.2.2.1, w_38.2.2.2.2.2.2.2.2.2.2.2.2.2.2.2.2.2.2.2.2.2.1, w_38.2.2.2.2.2.2.2.2.2.2.2.2.2.2.2.2.2.2.2.2.2.2.1, w_38.2.2.2.2.2.2.2.2.2.2.2.2.2.2.2.2.2.2.2.2.2.2.2.1, w_38.2.2.2.2.2.2.2.2.2.2.2.2.2.2.2.2.2.2.2.2.2.2.2.2.1, w_38.2.2.2.2.2.2.2.2.2.2.2.2.2.2.2.2.2.2.2.2.2.2.2.2.2) r_this_bytes 0 else s_X8_doStrings_L105bb p1 p2 p3 p4 ((((p2 + (1 : Int32)) : Int32).toInt - (0 : Int32).toInt).toNat + 1) w_38.2 r_this_bytes 0) else True))) else (s_X8_good w_4.2 r_this_keys p4 (p2 + (1 : Int32)) 1 false ∧ (q_let (f_X8_good w_4.2 r_this_keys p4 (p2 + (1 : Int32)) 1 false) fun w_8 => (if w_8.1 = true then (if p1 = (213 : Int32) then s_X8_doStrings_L105b p1 p2 p3 p4 ((((p2 + (1 : Int32)) : Int32).toInt - (0 : Int32).toInt).toNat + 1) (w_8.2.1, w_8.2.2.1, 0, w_8.2.2.2.2.1, w_8.2.2.2.2.2.1, w_8.2.2.2.2.2.2.1, w_8.2.2.2.2.2.2.2.1, w_8.2.2.2.2.2.2.2.2.1, w_8.2.2.2.2.2.2.2.2.2.1, w_8.2.2.2.2.2.2.2.2.2.2.1, w_8.2.2.2.2.2.2.2.2.2.2.2.1, w_8.2.2.2.2.2.2.2.2.2.2.2.2.1, w_8.2.2.2.2.2.2.2.2.2.2.2.2.2.1, w_8.2.2.2.2.2.2.2.2.2.2.2.2.2.2.1, w_8.2.2.2.2.2.2.2.2.2.2.2.2.2.2.2.1, w_8.2.2.2.2.2.2.2.2.2.2.2.2.2.2.2.2.1, w_8.2.2.2.2.2.2.2.2.2.2.2.2.2.2.2.2.2.1, w_8.2.2.2.2.2.2.2.2.2.2.2.2.2.2.2.2.2.2.1, w_8.2.2.2.2.2.2.2.2.2.2.2.2.2.2.2.2.2.2.2.1, w_8.2.2.2.2.2.2.2.2.2.2.2.2.2.2.2.2.2.2.2.2.1, w_8.2.2.2.2.2.2.2.2.2.2.2.2.2.2.2.2.2.2.2.2.2.1, w_8.2.2.2.2.2.2.2.2.2.2.2.2.2.2.2.2.2.2.2.2.2.2.1, w_8.2.2.2.2.2.2.2.2.2.2.2.2.2.2.2.2.2.2.2.2.2.2.2.1, w_8.2.2.2.2.2.2.2.2.2.2.2.2.2.2.2.2.2.2.2.2.2.2.2.2.1, w_8.2.2.2.2.2.2.2.2.2.2.2.2.2.2.2.2.2.2.2.2.2.2.2.2.2) r_this_bytes 0 else s_X8_doStrings_L105 p1 p2 p3 p4 ((((p2 + (1 : Int32)) : Int32).toInt - (0 : Int32).toInt).toNat + 1) w_8.2 r_this_bytes 0) else True)))) else True))) else (s_X8_good o_this r_this_keys p3 (p2 + (1 : Int32)) 1 true ∧ (q_let (f_X8_good o_this r_this_keys p3 (p2 + (1 : Int32)) 1 true) fun w_68 => (if w_68.1 = true then (if p1 = (220 : Int32) then (s_X8_good w_68.2 r_this_keys p4 256 1 false ∧ (q_let (f_X8_good w_68.2 r_this_keys p4 256 1 false) fun w_102 => (if w_102.1 = true then (if p1 = (213 : Int32) then s_X8_doStrings_L105bbbbbbb p1 p2 p3 p4 ((((p2 + (1 : Int32)) : Int32).toInt - (0 : Int32).toInt).toNat + 1) (w_102.2.1, w_102.2.2.1, 0, w_102.2.2.2.2.1, w_102.2.2.2.2.2.1, w_102.2.2.2.2.2.2.1, w_102.2.2.2.2.2.2.2.1, w_102.2.2.2.2.2.2.2.2.1, w_102.2.2.2.2.2.2.2.2.2.1, w_102.2.2.2.2.2.2.2.2.2.2.1, w_102.2.2.2.2.2.2.2.2.2.2.2.1, w_102.2.2.2.2.2.2.2.2.2.2.2.2.1, w_102.2.2.2.2.2.2.2.2.2.2.2.2.2.1, w_102.2.2.2.2.2.2.2.2.2.2.2.2.2.2.1, w_102.2.2.2.2.2.2.2.2.2.2.2.2.2.2.2.1, w_102.2.2.2.2.2.2.2.2.2.2.2.2.2.2.2.2.1, w_102.2.2.2.2.2.2.2.2.2.2.2.2.2.2.2.2.2.1, w_102.2.2.2.2.2.2.2.2.2.2.2.2.2.2.2.2.2.2.1, w_102.2.2.2.2.2.2.2.2.2.2.2.2.2.2.2.2.2.2.2.1, w_102.2.2.2.2.2.2.2.2.2.2.2.2.2.2.2.2.2.2.2.2.1, w_102.2.2.2.2.2.2.2.2.2.2.2.2.2.2.2.2.2.2.2.2.2.1, w_102.2.2.2.2.2.2.2.2.2.2.2.2.2.2.2.2.2.2.2.2.2.2.1, w_102.2.2.2.2.2.2.2.2.2.2.2.2.2.2.2.2.2.2.2.2.2.2.2.1, w_102.2.2.2.2.2.2.2.2.2.2.2.2.2.2.2.2.2.2.2.2.2.2.2.2.1, w_102.2.2.2.2.2.2.2.2.2.2.2.2.2.2.2.2.2.2.2.2.2.2.2.2.2) r_this_bytes 0 else s_X8_doStrings_L105bbbbbb p1 p2 p3 p4 ((((p2 + (1 : Int32)) : Int32).toInt - (0 : Int32).toInt).toNat + 1) w_102.2 r_this_bytes 0) else True))) else (s_X8_good w_68.2 r_this_keys p4 (p2 + (1 : Int32)) 1 false ∧ (q_let (f_X8_good w_68.2 r_this_keys p4 (p2 + (1 : Int32)) 1 false) fun w_72 => (if w_72.1 = true then (if p1 = (213 : Int32) then s_X8_doStrings_L105bbbbb p1 p2 p3 p4 ((((p2 + (1 : Int32)) : Int32).toInt - (0 : Int32).toInt).toNat + 1) (w_72.2.1, w_72.2.2.1, 0, w_72.2.2.2.2.1, w_72.2.2.2.2.2.1, w_72.2.2.2.2.2.2.1, w_72.2.2.2.2.2.2.2.1, w_72.2.2.2.2.2.2.2.2.1, w_72.2.2.2.2.2.2.2.2.2.1, w_72.2.2.2.2.2.2.2.2.2.2.1, w_72.2.2.2.2.2.2.2.2.2.2.2.1, w_72.2.2.2.2.2.2.2.2.2.2.2.2.1, w_72.2.2.2.2.2.2.2.2.2.2.2.2.2.1, w_72.2.2.2.2.2.2.2.2.2.2.2.2.2.2.1, w_72.2.2.2.2.2.2.2.2.2.2.2.2.2.2.2.1, w_72.2.2.2.2.2.2.2.2.2.2.2.2.2.2.2.2.1, w_72.2.2.2.2.2.2.2.2.2.2.2.2.2.2.2.2.2.1, w_72.2.2.2.2.2.2.2.2.2.2.2.2.2.2.2.2.2.2.1, w_72.2.2.2.2.2.2.2.2.2.2.2.2.2.2.2.2.2.2.2.1, w_72.2.2.2.2.2.2.2.2.2.2.2.2.2.2.2.2.2.2.2.2.1, w_72.2.2.2.2.2.2.2.2.2.2.2.2.2.2.2.2.2.2.2.2.2.1, w_72.2.2.2.2.2.2.2.2.2.2.2.2.2.2.2.2.2.2.2.2.2.2.1, w_72.2.2.2.2.2.2.2.2.2.2.2.2.2.2.2.2.2.2.2.2.2.2.2.1, w_72.2.2.2.2.2.2.2.2.2.2.2.2.2.2.2.2.2.2.2.2.2.2.2.2.1, w_72.2.2.2.2.2.2.2.2.2.2.2.2.2.2.2.2.2.2.2.2.2.2.2.2.2) r_this_bytes 0 else s_X8_doStrings_L105bbbb p1 p2 p3 p4 ((((p2 + (1 : Int32)) : Int32).toInt - (0 : Int32).toInt).toNat + 1) w_72.2 r_this_bytes 0) else True)))) else True)))) else s_X8_decimal o_this r_this_bytes r_this_keys r_this_one r_this_two p1 p3 ((p2 / (16 : Int32)) + (1 : Int32)) p4 ((p2 - p2 / (16 : Int32) * (16 : Int32)) + (1 : Int32)))
set_option linter.all false in
set_option maxHeartbeats 4000000 in
set_option maxRecDepth 100000 in
theorem c_X8_doStrings (l : Launch) (D : va_G) (a_this a_this_bytes a_this_keys a_this_one a_this_two a_this_reg a_this_card a_this_filled a_this_taken a_this_line : Nat) (k_this_bytes k_this_keys k_this_one k_this_two : ClassId) (o_this : Int32 × Int32 × Int32 × Int32 × Bool × Bool × Int32 × Int32 × Int32 × Int32 × Bool × Bool × Bool × Int32 × Int32 × Int32 × Int32 × Int32 × Int32 × Int32 × Int32 × Int32 × Int32 × Int32 × Int32) (r_this_bytes : Nat → Int32) (r_this_keys : Nat → Int32) (r_this_one : Nat → Int32) (r_this_two : Nat → Int32) (p1 : Int32) (p2 : Int32) (p3 : Int32) (p4 : Int32) (hs : s_X8_doStrings o_this r_this_bytes r_this_keys r_this_one r_this_two p1 p2 p3 p4) : CtV l yX8_doStrings cX8_doStrings 7 none { frames := 3, cells := 0, slots := 0, locals := 78 } D [.ref a_this, .int p1, .int p2, .int p3, .int p4] [(a_this, oX8 a_this_bytes a_this_keys a_this_reg a_this_card a_this_filled a_this_taken a_this_line a_this_one a_this_two o_this), (a_this_bytes, .inl (k_this_bytes, 2048, .inl r_this_bytes)), (a_this_keys, .inl (k_this_keys, 8, .inl r_this_keys)), (a_this_one, .inl (k_this_one, 40, .inl r_this_one)), (a_this_two, .inl (k_this_two, 40, .inl r_this_two))] [(k_this_bytes, .int), (k_this_keys, .int), (k_this_one, .int), (k_this_two, .int)] (fun (u : (Int32 × Int32 × Int32 × Int32 × Bool × Bool × Int32 × Int32 × Int32 × Int32 × Bool × Bool × Bool × Int32 × Int32 × Int32 × Int32 × Int32 × Int32 × Int32 × Int32 × Int32 × Int32 × Int32 × Int32) × (Nat → Int32) × (Nat → Int32) × (Nat → Int32)) => f_X8_doStrings o_this r_this_bytes r_this_keys r_this_one r_this_two p1 p2 p3 p4 = u) (fun u => [(a_this, oX8 a_this_bytes a_this_keys a_this_reg a_this_card a_this_filled a_this_taken a_this_line a_this_one a_this_two u.1), (a_this_bytes, .inl (k_this_bytes, 2048, .inl u.2.1)), (a_this_keys, .inl (k_this_keys, 8, .inl r_this_keys)), (a_this_one, .inl (k_this_one, 40, .inl u.2.2.1)), (a_this_two, .inl (k_this_two, 40, .inl u.2.2.2))]) := by
  refine CtV.of (by decide) (Nat.le_of_ble_eq_true rfl) ?_
  intro p e s m below meth c A ls Q hE hP hD hS hl hQ
  obtain ⟨hx, hb, hml, hown, ht, hN, hK, hA⟩ := hE
  have hown : s.vm.findClass RX8 = some m.cls := hown
  have hl : lv_has ls 7 [(0, .ref a_this), (1, .int p1), (2, .int p2), (3, .int p3), (4, .int p4)] := hl
  obtain ⟨F, hF⟩ : ∃ F, f_X8_doStrings o_this r_this_bytes r_this_keys r_this_one r_this_two p1 p2 p3 p4 = F := ⟨_, rfl⟩
  rw [hF] at hQ
  unfold f_X8_doStrings at hF
  unfold s_X8_doStrings at hs
  refine lv_iload_n hx hb dX8_doStrings_0 rfl (lv_at hl 1 rfl) ?_
  refine lv_sipush (v := 247) hx hb dX8_doStrings_1 (by decide) ?_
  refine lv_icmp_le (tgt := 28) hx hb dX8_doStrings_4 (by decide) (fun c_1 => ?_) (fun c_1 => ?_)
  · skip
    rw [if_pos c_1] at hF
    rw [if_pos c_1] at hs
    refine lv_iload_n hx hb dX8_doStrings_28 rfl (lv_at hl 2 rfl) ?_
    refine lv_iconst (v := 1) hx hb dX8_doStrings_29 (by decide) ?_
    refine lv_iadd hx hb dX8_doStrings_30 ?_
    refine lv_istore (lv' := [(5, .int (p2 + (1 : Int32))), (0, .ref a_this), (1, .int p1), (2, .int p2), (3, .int p3), (4, .int p4)]) hx hb dX8_doStrings_31 hl (by decide) rfl (fun ls hl => ?_)
    refine lv_aload_n hx hb dX8_doStrings_33 rfl (lv_at hl 1 rfl) ?_
    refine lv_iload_n hx hb dX8_doStrings_34 rfl (lv_at hl 4 rfl) ?_
    refine lv_iload hx hb dX8_doStrings_35 (lv_at hl 0 rfl) ?_
    refine lv_iconst (v := 1) hx hb dX8_doStrings_37 (by decide) ?_
    refine lv_iload_n hx hb dX8_doStrings_38 rfl (lv_at hl 2 rfl) ?_
    refine lv_sipush (v := 213) hx hb dX8_doStrings_39 (by decide) ?_
    refine lv_icmp_eq (tgt := 49) hx hb dX8_doStrings_42 (by decide) (fun c_2 => ?_) (fun c_2 => ?_)
    · skip
      rw [if_pos c_2] at hF
      rw [if_pos c_2] at hs
      refine lv_iconst (v := 0) hx hb dX8_doStrings_49 (by decide) ?_
      obtain ⟨hi_3, hs⟩ := hs
      refine q_Vi (rest := []) (c_X8_good l D a_this a_this_keys a_this_bytes a_this_reg a_this_card a_this_filled a_this_taken a_this_line a_this_one a_this_two k_this_keys o_this r_this_keys p3 (p2 + (1 : Int32)) 1 false hi_3) cv_X8_good hx hb hml hown ht hN hK hA hP hD hS hl.1 (km_X8_158) ⟨Nat.le_of_ble_eq_true rfl, Nat.le_of_ble_eq_true rfl⟩ rfl rfl [0, 2] (by decide) rfl [1] rfl (fun _ => rfl) (ci := 8) rfl rfl rfl rfl rfl (Nat.le_of_ble_eq_true rfl) dX8_doStrings_50 ⟨Nat.zero_le _, Nat.zero_le _⟩ (fun r w_4 H locs hw hP hD hS => ?_)
      obtain ⟨hw, hr⟩ := hw
      subst hr
      have hP : va_P D vwCl [(a_this, oX8 a_this_bytes a_this_keys a_this_reg a_this_card a_this_filled a_this_taken a_this_line a_this_one a_this_two w_4.2), (a_this_bytes, .inl (k_this_bytes, 2048, .inl r_this_bytes)), (a_this_keys, .inl (k_this_keys, 8, .inl r_this_keys)), (a_this_one, .inl (k_this_one, 40, .inl r_this_one)), (a_this_two, .inl (k_this_two, 40, .inl r_this_two))] H := hP
      have hD : va_D A [(a_this, oX8 a_this_bytes a_this_keys a_this_reg a_this_card a_this_filled a_this_taken a_this_line a_this_one a_this_two w_4.2), (a_this_bytes, .inl (k_this_bytes, 2048, .inl r_this_bytes)), (a_this_keys, .inl (k_this_keys, 8, .inl r_this_keys)), (a_this_one, .inl (k_this_one, 40, .inl r_this_one)), (a_this_two, .inl (k_this_two, 40, .inl r_this_two))] := hD
      rw [q_let_of hw] at hF
      rw [q_let_of hw] at hs
      refine lv_if_eq (tgt := 82) hx hb dX8_doStrings_53 (by decide) (fun c_5 => ?_) (fun c_5 => ?_)
      · have c_5 : ¬ w_4.1 = true := by rw [(bI_eq0 _).mp c_5]; decide
        rw [if_neg c_5] at hF
        rw [if_neg c_5] at hs
        exact hQ (w_4.2, r_this_bytes, r_this_one, r_this_two) _ _ _ _ dX8_doStrings_82 hF.symm hP hD hS
      · have c_5 := (bI_ne0 _).mp c_5
        rw [if_pos c_5] at hF
        rw [if_pos c_5] at hs
        refine lv_aload_n hx hb dX8_doStrings_56 rfl (lv_at hl 1 rfl) ?_
        refine lv_iload hx hb dX8_doStrings_57 (lv_at hl 5 rfl) ?_
        refine lv_iload_n hx hb dX8_doStrings_59 rfl (lv_at hl 2 rfl) ?_
        refine lv_sipush (v := 220) hx hb dX8_doStrings_60 (by decide) ?_
        refine lv_icmp_ne (tgt := 72) hx hb dX8_doStrings_63 (by decide) (fun c_6 => ?_) (fun c_6 => ?_)
        · skip
          rw [if_neg c_6] at hF
          rw [if_neg c_6] at hs
          refine lv_iload hx hb dX8_doStrings_72 (lv_at hl 0 rfl) ?_
          refine lv_iconst (v := 1) hx hb dX8_doStrings_74 (by decide) ?_
          refine lv_iconst (v := 0) hx hb dX8_doStrings_75 (by decide) ?_
          obtain ⟨hi_7, hs⟩ := hs
          refine q_Vi (rest := []) (c_X8_good l D a_this a_this_keys a_this_bytes a_this_reg a_this_card a_this_filled a_this_taken a_this_line a_this_one a_this_two k_this_keys w_4.2 r_this_keys p4 (p2 + (1 : Int32)) 1 false hi_7) cv_X8_good hx hb hml hown ht hN hK hA hP hD hS hl.1 (km_X8_158) ⟨Nat.le_of_ble_eq_true rfl, Nat.le_of_ble_eq_true rfl⟩ rfl rfl [0, 2] (by decide) rfl [1] rfl (fun _ => rfl) (ci := 8) rfl rfl rfl rfl rfl (Nat.le_of_ble_eq_true rfl) dX8_doStrings_76 ⟨Nat.zero_le _, Nat.zero_le _⟩ (fun r w_8 H locs hw hP hD hS => ?_)
          obtain ⟨hw, hr⟩ := hw
          subst hr
          have hP : va_P D vwCl [(a_this, oX8 a_this_bytes a_this_keys a_this_reg a_this_card a_this_filled a_this_taken a_this_line a_this_one a_this_two w_8.2), (a_this_bytes, .inl (k_this_bytes, 2048, .inl r_this_bytes)), (a_this_keys, .inl (k_this_keys, 8, .inl r_this_keys)), (a_this_one, .inl (k_this_one, 40, .inl r_this_one)), (a_this_two, .inl (k_this_two, 40, .inl r_this_two))] H := hP
          have hD : va_D A [(a_this, oX8 a_this_bytes a_this_keys a_this_reg a_this_card a_this_filled a_this_taken a_this_line a_this_one a_this_two w_8.2), (a_this_bytes, .inl (k_this_bytes, 2048, .inl r_this_bytes)), (a_this_keys, .inl (k_this_keys, 8, .inl r_this_keys)), (a_this_one, .inl (k_this_one, 40, .inl r_this_one)), (a_this_two, .inl (k_this_two, 40, .inl r_this_two))] := hD
          rw [q_let_of hw] at hF
          rw [q_let_of hw] at hs
          refine lv_if_ne (tgt := 83) hx hb dX8_doStrings_79 (by decide) (fun c_9 => ?_) (fun c_9 => ?_)
          · have c_9 := (bI_ne0 _).mp c_9
            rw [if_pos c_9] at hF
            rw [if_pos c_9] at hs
            refine lv_aload_n hx hb dX8_doStrings_83 rfl (lv_at hl 1 rfl) ?_
            refine lv_iload_n hx hb dX8_doStrings_84 rfl (lv_at hl 2 rfl) ?_
            refine lv_sipush (v := 213) hx hb dX8_doStrings_85 (by decide) ?_
            refine lv_icmp_ne (tgt := 95) hx hb dX8_doStrings_88 (by decide) (fun c_10 => ?_) (fun c_10 => ?_)
            · skip
              rw [if_neg c_10] at hF
              rw [if_neg c_10] at hs
              refine lv_aload_n hx hb dX8_doStrings_95 rfl (lv_at hl 1 rfl) ?_
              refine gf_X8_52 (v := .int w_8.2.2.2.1) hx hb hown ht hK hP 0 rfl rfl dX8_doStrings_96 ?_
              refine pf_X8_52 (x := w_8.2.2.2.1) hx hb hown ht hK hP hD hS 0 rfl (Nat.le_of_ble_eq_true rfl) dX8_doStrings_99 (fun H locs hP hD hS => ?_)
              have hP : va_P D vwCl [(a_this, oX8 a_this_bytes a_this_keys a_this_reg a_this_card a_this_filled a_this_taken a_this_line a_this_one a_this_two w_8.2), (a_this_bytes, .inl (k_this_bytes, 2048, .inl r_this_bytes)), (a_this_keys, .inl (k_this_keys, 8, .inl r_this_keys)), (a_this_one, .inl (k_this_one, 40, .inl r_this_one)), (a_this_two, .inl (k_this_two, 40, .inl r_this_two))] H := hP
              have hD : va_D A [(a_this, oX8 a_this_bytes a_this_keys a_this_reg a_this_card a_this_filled a_this_taken a_this_line a_this_one a_this_two w_8.2), (a_this_bytes, .inl (k_this_bytes, 2048, .inl r_this_bytes)), (a_this_keys, .inl (k_this_keys, 8, .inl r_this_keys)), (a_this_one, .inl (k_this_one, 40, .inl r_this_one)), (a_this_two, .inl (k_this_two, 40, .inl r_this_two))] := hD
              refine lv_iconst (v := 0) hx hb dX8_doStrings_102 (by decide) ?_
              refine lv_istore (lv' := [(6, .int 0), (5, .int (p2 + (1 : Int32))), (0, .ref a_this), (1, .int p1), (2, .int p2), (3, .int p3), (4, .int p4)]) hx hb dX8_doStrings_103 hl (by decide) rfl (fun ls hl => ?_)
              have L105 : ∀ (fuel : Nat) (o_this_L105 : Int32 × Int32 × Int32 × Int32 × Bool × Bool × Int32 × Int32 × Int32 × Int32 × Bool × Bool × Bool × Int32 × Int32 × Int32 × Int32 × Int32 × Int32 × Int32 × Int32 × Int32 × Int32 × Int32 × Int32) (r_this_bytes_L105 : Nat → Int32) (x6 : Int32) (H : Heap) (locs : List Loc) (ls : Array Slot), (((p2 + (1 : Int32)) : Int32).toInt - (x6 : Int32).toInt).toNat < fuel → va_P D vwCl [(a_this, oX8 a_this_bytes a_this_keys a_this_reg a_this_card a_this_filled a_this_taken a_this_line a_this_one a_this_two o_this_L105), (a_this_bytes, .inl (k_this_bytes, 2048, .inl r_this_bytes_L105)), (a_this_keys, .inl (k_this_keys, 8, .inl r_this_keys)), (a_this_one, .inl (k_this_one, 40, .inl r_this_one)), (a_this_two, .inl (k_this_two, 40, .inl r_this_two))] H → va_D A [(a_this, oX8 a_this_bytes a_this_keys a_this_reg a_this_card a_this_filled a_this_taken a_this_line a_this_one a_this_two o_this_L105), (a_this_bytes, .inl (k_this_bytes, 2048, .inl r_this_bytes_L105)), (a_this_keys, .inl (k_this_keys, 8, .inl r_this_keys)), (a_this_one, .inl (k_this_one, 40, .inl r_this_one)), (a_this_two, .inl (k_this_two, 40, .inl r_this_two))] → va_S A s.heap H locs → lv_has ls 7 [(6, .int x6), (5, .int (p2 + (1 : Int32))), (0, .ref a_this), (1, .int p1), (2, .int p2), (3, .int p3), (4, .int p4)] → f_X8_doStrings_L105 r_this_one r_this_two p1 p2 p3 p4 fuel o_this_L105 r_this_bytes_L105 x6 = F → s_X8_doStrings_L105 p1 p2 p3 p4 fuel o_this_L105 r_this_bytes_L105 x6 → W p l e ({ frames := 3, cells := 0, slots := 0, locals := 78 } : Room) s m ([.ref a_this, .int p1, .int p2, .int p3, .int p4] : List Value).toArray below meth c H locs 0 0 Q (F0 m 105 ls []) := by
                intro fuel
                induction fuel with
                | zero => intro o_this_L105 r_this_bytes_L105 x6 H locs ls hm; exact absurd hm (Nat.not_lt_zero _)
                | succ fuel ih =>
                  intro o_this_L105 r_this_bytes_L105 x6 H locs ls hm  hP hD hS hl hF hs
                  rw [f_X8_doStrings_L105] at hF
                  rw [s_X8_doStrings_L105] at hs
                  skip
                  refine lv_iload hx hb dX8_doStrings_105 (lv_at hl 0 rfl) ?_
                  refine lv_iload hx hb dX8_doStrings_107 (lv_at hl 1 rfl) ?_
                  refine lv_icmp_ge (tgt := 213) hx hb dX8_doStrings_109 (by decide) (fun c_12 => ?_) (fun c_12 => ?_)
                  · skip
                    rw [if_pos c_12] at hF
                    rw [if_pos c_12] at hs
                    exact hQ (o_this_L105, r_this_bytes_L105, r_this_one, r_this_two) _ _ _ _ dX8_doStrings_213 hF.symm hP hD hS
                  · skip
                    rw [if_neg c_12] at hF
                    rw [if_neg c_12] at hs
                    refine lv_iload_n hx hb dX8_doStrings_112 rfl (lv_at hl 3 rfl) ?_
                    refine lv_sipush (v := 210) hx hb dX8_doStrings_113 (by decide) ?_
                    refine lv_icmp_ne (tgt := 141) hx hb dX8_doStrings_116 (by decide) (fun c_13 => ?_) (fun c_13 => ?_)
                    · skip
                      rw [if_neg c_13] at hF
                      rw [if_neg c_13] at hs
                      refine lv_iload_n hx hb dX8_doStrings_141 rfl (lv_at hl 3 rfl) ?_
                      refine lv_sipush (v := 220) hx hb dX8_doStrings_142 (by decide) ?_
                      refine lv_icmp_ne (tgt := 177) hx hb dX8_doStrings_145 (by decide) (fun c_14 => ?_) (fun c_14 => ?_)
                      · skip
                        rw [if_neg c_14] at hF
                        rw [if_neg c_14] at hs
                        refine lv_aload_n hx hb dX8_doStrings_177 rfl (lv_at hl 2 rfl) ?_
                        refine gf_X8_52 (v := .int o_this_L105.2.2.1) hx hb hown ht hK hP 0 rfl rfl dX8_doStrings_178 ?_
                        refine lv_if_ne (tgt := 207) hx hb dX8_doStrings_181 (by decide) (fun c_15 => ?_) (fun c_15 => ?_)
                        · skip
                          rw [if_neg c_15] at hF
                          rw [if_neg c_15] at hs
                          refine lv_iinc (v := (x6 + (1 : Int32))) (lv' := [(6, .int (x6 + (1 : Int32))), (5, .int (p2 + (1 : Int32))), (0, .ref a_this), (1, .int p1), (2, .int p2), (3, .int p3), (4, .int p4)]) hx hb dX8_doStrings_207 hl (k := 0) rfl rfl (by decide) rfl (fun ls hl => ?_)
                          refine lv_goto (tgt := 105) hx hb dX8_doStrings_210 (by decide) ?_
                          exact ih o_this_L105 r_this_bytes_L105 (x6 + (1 : Int32)) _ _ _ (by first | exact q_up hm c_1 | exact q_up hm c_2 | exact q_up hm c_5 | exact q_up hm c_6 | exact q_up hm c_9 | exact q_up hm c_10 | exact q_up hm c_12 | exact q_up hm c_13 | exact q_up hm c_14 | exact q_up hm c_15)  hP hD hS (lv_sub hl [0, 1, 2, 3, 4, 5, 6] rfl) hF hs
                        · skip
                          rw [if_pos c_15] at hF
                          rw [if_pos c_15] at hs
                          refine lv_aload_n hx hb dX8_doStrings_184 rfl (lv_at hl 2 rfl) ?_
                          refine lv_aload_n hx hb dX8_doStrings_185 rfl (lv_at hl 2 rfl) ?_
                          refine gf_X8_7 (v := .ref a_this_bytes) hx hb hown ht hK hP 0 rfl rfl dX8_doStrings_186 ?_
                          refine lv_iload_n hx hb dX8_doStrings_189 rfl (lv_at hl 5 rfl) ?_
                          refine lv_iload hx hb dX8_doStrings_190 (lv_at hl 0 rfl) ?_
                          refine lv_iadd hx hb dX8_doStrings_192 ?_
                          obtain ⟨hi_16, hs⟩ := hs
                          refine va_iald hx hb hK hP 1 0 rfl rfl hi_16 dX8_doStrings_193 ?_
                          refine lv_aload_n hx hb dX8_doStrings_194 rfl (lv_at hl 2 rfl) ?_
                          refine gf_X8_7 (v := .ref a_this_bytes) hx hb hown ht hK hP 0 rfl rfl dX8_doStrings_195 ?_
                          refine lv_iload hx hb dX8_doStrings_198 (lv_at hl 6 rfl) ?_
                          refine lv_iload hx hb dX8_doStrings_200 (lv_at hl 0 rfl) ?_
                          refine lv_iadd hx hb dX8_doStrings_202 ?_
                          obtain ⟨hi_17, hs⟩ := hs
                          refine va_iald hx hb hK hP 1 0 rfl rfl hi_17 dX8_doStrings_203 ?_
                          refine q_Vv (rest := []) (c_X8_compared l D a_this a_this_bytes a_this_keys a_this_reg a_this_card a_this_filled a_this_taken a_this_line a_this_one a_this_two o_this_L105 (r_this_bytes_L105 (p3 + x6).toNatClampNeg) (r_this_bytes_L105 (p4 + x6).toNatClampNeg)) cv_X8_compared hx hb hml hown ht hN hK hA hP hD hS hl.1 (km_X8_131) ⟨Nat.le_of_ble_eq_true rfl, Nat.le_of_ble_eq_true rfl⟩ rfl rfl [0] (by decide) rfl [] rfl (fun _ => rfl) (ci := 8) rfl rfl rfl rfl rfl (Nat.le_of_ble_eq_true rfl) dX8_doStrings_204 ⟨Nat.zero_le _, Nat.zero_le _⟩ (fun w_18 H locs hw hP hD hS => ?_)
                          have hP : va_P D vwCl [(a_this, oX8 a_this_bytes a_this_keys a_this_reg a_this_card a_this_filled a_this_taken a_this_line a_this_one a_this_two w_18), (a_this_bytes, .inl (k_this_bytes, 2048, .inl r_this_bytes_L105)), (a_this_keys, .inl (k_this_keys, 8, .inl r_this_keys)), (a_this_one, .inl (k_this_one, 40, .inl r_this_one)), (a_this_two, .inl (k_this_two, 40, .inl r_this_two))] H := hP
                          have hD : va_D A [(a_this, oX8 a_this_bytes a_this_keys a_this_reg a_this_card a_this_filled a_this_taken a_this_line a_this_one a_this_two w_18), (a_this_bytes, .inl (k_this_bytes, 2048, .inl r_this_bytes_L105)), (a_this_keys, .inl (k_this_keys, 8, .inl r_this_keys)), (a_this_one, .inl (k_this_one, 40, .inl r_this_one)), (a_this_two, .inl (k_this_two, 40, .inl r_this_two))] := hD
                          rw [q_let_of hw] at hF
                          rw [q_let_of hw] at hs
                          refine lv_iinc (v := (x6 + (1 : Int32))) (lv' := [(6, .int (x6 + (1 : Int32))), (5, .int (p2 + (1 : Int32))), (0, .ref a_this), (1, .int p1), (2, .int p2), (3, .int p3), (4, .int p4)]) hx hb dX8_doStrings_207 hl (k := 0) rfl rfl (by decide) rfl (fun ls hl => ?_)
                          refine lv_goto (tgt := 105) hx hb dX8_doStrings_210 (by decide) ?_
                          exact ih w_18 r_this_bytes_L105 (x6 + (1 : Int32)) _ _ _ (by first | exact q_up hm c_1 | exact q_up hm c_2 | exact q_up hm c_5 | exact q_up hm c_6 | exact q_up hm c_9 | exact q_up hm c_10 | exact q_up hm c_12 | exact q_up hm c_13 | exact q_up hm c_14 | exact q_up hm c_15)  hP hD hS (lv_sub hl [0, 1, 2, 3, 4, 5, 6] rfl) hF hs
                      · skip
                        rw [if_pos c_14] at hF
                        rw [if_pos c_14] at hs
                        refine lv_aload_n hx hb dX8_doStrings_148 rfl (lv_at hl 2 rfl) ?_
                        refine gf_X8_7 (v := .ref a_this_bytes) hx hb hown ht hK hP 0 rfl rfl dX8_doStrings_149 ?_
                        refine lv_iload_n hx hb dX8_doStrings_152 rfl (lv_at hl 5 rfl) ?_
                        refine lv_iload hx hb dX8_doStrings_153 (lv_at hl 0 rfl) ?_
                        refine lv_iadd hx hb dX8_doStrings_155 ?_
                        refine lv_aload_n hx hb dX8_doStrings_156 rfl (lv_at hl 2 rfl) ?_
                        refine gf_X8_7 (v := .ref a_this_bytes) hx hb hown ht hK hP 0 rfl rfl dX8_doStrings_157 ?_
                        refine lv_iload hx hb dX8_doStrings_160 (lv_at hl 6 rfl) ?_
                        refine lv_aload_n hx hb dX8_doStrings_162 rfl (lv_at hl 2 rfl) ?_
                        refine gf_X8_7 (v := .ref a_this_bytes) hx hb hown ht hK hP 0 rfl rfl dX8_doStrings_163 ?_
                        refine lv_iload_n hx hb dX8_doStrings_166 rfl (lv_at hl 5 rfl) ?_
                        refine lv_iload hx hb dX8_doStrings_167 (lv_at hl 0 rfl) ?_
                        refine lv_iadd hx hb dX8_doStrings_169 ?_
                        obtain ⟨hi_19, hs⟩ := hs
                        refine va_iald hx hb hK hP 1 0 rfl rfl hi_19 dX8_doStrings_170 ?_
                        refine lv_iadd hx hb dX8_doStrings_171 ?_
                        obtain ⟨hi_20, hs⟩ := hs
                        refine va_iald hx hb hK hP 1 0 rfl rfl hi_20 dX8_doStrings_172 ?_
                        obtain ⟨hi_21, hs⟩ := hs
                        refine va_iast hx hb hK hP hD hS 1 0 rfl rfl hi_21 dX8_doStrings_173 (fun H locs hP hD hS => ?_)
                        have hP : va_P D vwCl [(a_this, oX8 a_this_bytes a_this_keys a_this_reg a_this_card a_this_filled a_this_taken a_this_line a_this_one a_this_two o_this_L105), (a_this_bytes, .inl (k_this_bytes, 2048, .inl (upd r_this_bytes_L105 (p3 + x6).toNatClampNeg (r_this_bytes_L105 (p4 + (r_this_bytes_L105 (p3 + x6).toNatClampNeg)).toNatClampNeg)))), (a_this_keys, .inl (k_this_keys, 8, .inl r_this_keys)), (a_this_one, .inl (k_this_one, 40, .inl r_this_one)), (a_this_two, .inl (k_this_two, 40, .inl r_this_two))] H := hP
                        have hD : va_D A [(a_this, oX8 a_this_bytes a_this_keys a_this_reg a_this_card a_this_filled a_this_taken a_this_line a_this_one a_this_two o_this_L105), (a_this_bytes, .inl (k_this_bytes, 2048, .inl (upd r_this_bytes_L105 (p3 + x6).toNatClampNeg (r_this_bytes_L105 (p4 + (r_this_bytes_L105 (p3 + x6).toNatClampNeg)).toNatClampNeg)))), (a_this_keys, .inl (k_this_keys, 8, .inl r_this_keys)), (a_this_one, .inl (k_this_one, 40, .inl r_this_one)), (a_this_two, .inl (k_this_two, 40, .inl r_this_two))] := hD
                        refine lv_goto (tgt := 207) hx hb dX8_doStrings_174 (by decide) ?_
                        refine lv_iinc (v := (x6 + (1 : Int32))) (lv' := [(6, .int (x6 + (1 : Int32))), (5, .int (p2 + (1 : Int32))), (0, .ref a_this), (1, .int p1), (2, .int p2), (3, .int p3), (4, .int p4)]) hx hb dX8_doStrings_207 hl (k := 0) rfl rfl (by decide) rfl (fun ls hl => ?_)
                        refine lv_goto (tgt := 105) hx hb dX8_doStrings_210 (by decide) ?_
                        exact ih o_this_L105 (upd r_this_bytes_L105 (p3 + x6).toNatClampNeg (r_this_bytes_L105 (p4 + (r_this_bytes_L105 (p3 + x6).toNatClampNeg)).toNatClampNeg)) (x6 + (1 : Int32)) _ _ _ (by first | exact q_up hm c_1 | exact q_up hm c_2 | exact q_up hm c_5 | exact q_up hm c_6 | exact q_up hm c_9 | exact q_up hm c_10 | exact q_up hm c_12 | exact q_up hm c_13 | exact q_up hm c_14)  hP hD hS (lv_sub hl [0, 1, 2, 3, 4, 5, 6] rfl) hF hs
                    · skip
                      rw [if_pos c_13] at hF
                      rw [if_pos c_13] at hs
                      refine lv_aload_n hx hb dX8_doStrings_119 rfl (lv_at hl 2 rfl) ?_
                      refine gf_X8_7 (v := .ref a_this_bytes) hx hb hown ht hK hP 0 rfl rfl dX8_doStrings_120 ?_
                      refine lv_iload_n hx hb dX8_doStrings_123 rfl (lv_at hl 5 rfl) ?_
                      refine lv_iload hx hb dX8_doStrings_124 (lv_at hl 0 rfl) ?_
                      refine lv_iadd hx hb dX8_doStrings_126 ?_
                      refine lv_aload_n hx hb dX8_doStrings_127 rfl (lv_at hl 2 rfl) ?_
                      refine gf_X8_7 (v := .ref a_this_bytes) hx hb hown ht hK hP 0 rfl rfl dX8_doStrings_128 ?_
                      refine lv_iload hx hb dX8_doStrings_131 (lv_at hl 6 rfl) ?_
                      refine lv_iload hx hb dX8_doStrings_133 (lv_at hl 0 rfl) ?_
                      refine lv_iadd hx hb dX8_doStrings_135 ?_
                      obtain ⟨hi_22, hs⟩ := hs
                      refine va_iald hx hb hK hP 1 0 rfl rfl hi_22 dX8_doStrings_136 ?_
                      obtain ⟨hi_23, hs⟩ := hs
                      refine va_iast hx hb hK hP hD hS 1 0 rfl rfl hi_23 dX8_doStrings_137 (fun H locs hP hD hS => ?_)
                      have hP : va_P D vwCl [(a_this, oX8 a_this_bytes a_this_keys a_this_reg a_this_card a_this_filled a_this_taken a_this_line a_this_one a_this_two o_this_L105), (a_this_bytes, .inl (k_this_bytes, 2048, .inl (upd r_this_bytes_L105 (p3 + x6).toNatClampNeg (r_this_bytes_L105 (p4 + x6).toNatClampNeg)))), (a_this_keys, .inl (k_this_keys, 8, .inl r_this_keys)), (a_this_one, .inl (k_this_one, 40, .inl r_this_one)), (a_this_two, .inl (k_this_two, 40, .inl r_this_two))] H := hP
                      have hD : va_D A [(a_this, oX8 a_this_bytes a_this_keys a_this_reg a_this_card a_this_filled a_this_taken a_this_line a_this_one a_this_two o_this_L105), (a_this_bytes, .inl (k_this_bytes, 2048, .inl (upd r_this_bytes_L105 (p3 + x6).toNatClampNeg (r_this_bytes_L105 (p4 + x6).toNatClampNeg)))), (a_this_keys, .inl (k_this_keys, 8, .inl r_this_keys)), (a_this_one, .inl (k_this_one, 40, .inl r_this_one)), (a_this_two, .inl (k_this_two, 40, .inl r_this_two))] := hD
                      refine lv_goto (tgt := 207) hx hb dX8_doStrings_138 (by decide) ?_
                      refine lv_iinc (v := (x6 + (1 : Int32))) (lv' := [(6, .int (x6 + (1 : Int32))), (5, .int (p2 + (1 : Int32))), (0, .ref a_this), (1, .int p1), (2, .int p2), (3, .int p3), (4, .int p4)]) hx hb dX8_doStrings_207 hl (k := 0) rfl rfl (by decide) rfl (fun ls hl => ?_)
                      refine lv_goto (tgt := 105) hx hb dX8_doStrings_210 (by decide) ?_
                      exact ih o_this_L105 (upd r_this_bytes_L105 (p3 + x6).toNatClampNeg (r_this_bytes_L105 (p4 + x6).toNatClampNeg)) (x6 + (1 : Int32)) _ _ _ (by first | exact q_up hm c_1 | exact q_up hm c_2 | exact q_up hm c_5 | exact q_up hm c_6 | exact q_up hm c_9 | exact q_up hm c_10 | exact q_up hm c_12 | exact q_up hm c_13)  hP hD hS (lv_sub hl [0, 1, 2, 3, 4, 5, 6] rfl) hF hs
              exact L105 ((((p2 + (1 : Int32)) : Int32).toInt - (0 : Int32).toInt).toNat + 1) w_8.2 r_this_bytes 0 _ _ _ (Nat.lt_succ_self _)  hP hD hS (lv_sub hl [0, 1, 2, 3, 4, 5, 6] rfl) hF hs
            · skip
              rw [if_pos c_10] at hF
              rw [if_pos c_10] at hs
              refine lv_iconst (v := 0) hx hb dX8_doStrings_91 (by decide) ?_
              refine lv_goto (tgt := 99) hx hb dX8_doStrings_92 (by decide) ?_
              refine pf_X8_52 (x := 0) hx hb hown ht hK hP hD hS 0 rfl (Nat.le_of_ble_eq_true rfl) dX8_doStrings_99 (fun H locs hP hD hS => ?_)
              have hP : va_P D vwCl [(a_this, oX8 a_this_bytes a_this_keys a_this_reg a_this_card a_this_filled a_this_taken a_this_line a_this_one a_this_two (w_8.2.1, w_8.2.2.1, 0, w_8.2.2.2.2.1, w_8.2.2.2.2.2.1, w_8.2.2.2.2.2.2.1, w_8.2.2.2.2.2.2.2.1, w_8.2.2.2.2.2.2.2.2.1, w_8.2.2.2.2.2.2.2.2.2.1, w_8.2.2.2.2.2.2.2.2.2.2.1, w_8.2.2.2.2.2.2.2.2.2.2.2.1, w_8.2.2.2.2.2.2.2.2.2.2.2.2.1, w_8.2.2.2.2.2.2.2.2.2.2.2.2.2.1, w_8.2.2.2.2.2.2.2.2.2.2.2.2.2.2.1, w_8.2.2.2.2.2.2.2.2.2.2.2.2.2.2.2.1, w_8.2.2.2.2.2.2.2.2.2.2.2.2.2.2.2.2.1, w_8.2.2.2.2.2.2.2.2.2.2.2.2.2.2.2.2.2.1, w_8.2.2.2.2.2.2.2.2.2.2.2.2.2.2.2.2.2.2.1, w_8.2.2.2.2.2.2.2.2.2.2.2.2.2.2.2.2.2.2.2.1, w_8.2.2.2.2.2.2.2.2.2.2.2.2.2.2.2.2.2.2.2.2.1, w_8.2.2.2.2.2.2.2.2.2.2.2.2.2.2.2.2.2.2.2.2.2.1, w_8.2.2.2.2.2.2.2.2.2.2.2.2.2.2.2.2.2.2.2.2.2.2.1, w_8.2.2.2.2.2.2.2.2.2.2.2.2.2.2.2.2.2.2.2.2.2.2.2.1, w_8.2.2.2.2.2.2.2.2.2.2.2.2.2.2.2.2.2.2.2.2.2.2.2.2.1, w_8.2.2.2.2.2.2.2.2.2.2.2.2.2.2.2.2.2.2.2.2.2.2.2.2.2)), (a_this_bytes, .inl (k_this_bytes, 2048, .inl r_this_bytes)), (a_this_keys, .inl (k_this_keys, 8, .inl r_this_keys)), (a_this_one, .inl (k_this_one, 40, .inl r_this_one)), (a_this_two, .inl (k_this_two, 40, .inl r_this_two))] H := hP
              have hD : va_D A [(a_this, oX8 a_this_bytes a_this_keys a_this_reg a_this_card a_this_filled a_this_taken a_this_line a_this_one a_this_two (w_8.2.1, w_8.2.2.1, 0, w_8.2.2.2.2.1, w_8.2.2.2.2.2.1, w_8.2.2.2.2.2.2.1, w_8.2.2.2.2.2.2.2.1, w_8.2.2.2.2.2.2.2.2.1, w_8.2.2.2.2.2.2.2.2.2.1, w_8.2.2.2.2.2.2.2.2.2.2.1, w_8.2.2.2.2.2.2.2.2.2.2.2.1, w_8.2.2.2.2.2.2.2.2.2.2.2.2.1, w_8.2.2.2.2.2.2.2.2.2.2.2.2.2.1, w_8.2.2.2.2.2.2.2.2.2.2.2.2.2.2.1, w_8.2.2.2.2.2.2.2.2.2.2.2.2.2.2.2.1, w_8.2.2.2.2.2.2.2.2.2.2.2.2.2.2.2.2.1, w_8.2.2.2.2.2.2.2.2.2.2.2.2.2.2.2.2.2.1, w_8.2.2.2.2.2.2.2.2.2.2.2.2.2.2.2.2.2.2.1, w_8.2.2.2.2.2.2.2.2.2.2.2.2.2.2.2.2.2.2.2.1, w_8.2.2.2.2.2.2.2.2.2.2.2.2.2.2.2.2.2.2.2.2.1, w_8.2.2.2.2.2.2.2.2.2.2.2.2.2.2.2.2.2.2.2.2.2.1, w_8.2.2.2.2.2.2.2.2.2.2.2.2.2.2.2.2.2.2.2.2.2.2.1, w_8.2.2.2.2.2.2.2.2.2.2.2.2.2.2.2.2.2.2.2.2.2.2.2.1, w_8.2.2.2.2.2.2.2.2.2.2.2.2.2.2.2.2.2.2.2.2.2.2.2.2.1, w_8.2.2.2.2.2.2.2.2.2.2.2.2.2.2.2.2.2.2.2.2.2.2.2.2.2)), (a_this_bytes, .inl (k_this_bytes, 2048, .inl r_this_bytes)), (a_this_keys, .inl (k_this_keys, 8, .inl r_this_keys)), (a_this_one, .inl (k_this_one, 40, .inl r_this_one)), (a_this_two, .inl (k_this_two, 40, .inl r_this_two))] := hD
              refine lv_iconst (v := 0) hx hb dX8_doStrings_102 (by decide) ?_
              refine lv_istore (lv' := [(6, .int 0), (5, .int (p2 + (1 : Int32))), (0, .ref a_this), (1, .int p1), (2, .int p2), (3, .int p3), (4, .int p4)]) hx hb dX8_doStrings_103 hl (by decide) rfl (fun ls hl => ?_)
              have L105 : ∀ (fuel : Nat) (o_this_L105 : Int32 × Int32 × Int32 × Int32 × Bool × Bool × Int32 × Int32 × Int32 × Int32 × Bool × Bool × Bool × Int32 × Int32 × Int32 × Int32 × Int32 × Int32 × Int32 × Int32 × Int32 × Int32 × Int32 × Int32) (r_this_bytes_L105 : Nat → Int32) (x6 : Int32) (H : Heap) (locs : List Loc) (ls : Array Slot), (((p2 + (1 : Int32)) : Int32).toInt - (x6 : Int32).toInt).toNat < fuel → va_P D vwCl [(a_this, oX8 a_this_bytes a_this_keys a_this_reg a_this_card a_this_filled a_this_taken a_this_line a_this_one a_this_two o_this_L105), (a_this_bytes, .inl (k_this_bytes, 2048, .inl r_this_bytes_L105)), (a_this_keys, .inl (k_this_keys, 8, .inl r_this_keys)), (a_this_one, .inl (k_this_one, 40, .inl r_this_one)), (a_this_two, .inl (k_this_two, 40, .inl r_this_two))] H → va_D A [(a_this, oX8 a_this_bytes a_this_keys a_this_reg a_this_card a_this_filled a_this_taken a_this_line a_this_one a_this_two o_this_L105), (a_this_bytes, .inl (k_this_bytes, 2048, .inl r_this_bytes_L105)), (a_this_keys, .inl (k_this_keys, 8, .inl r_this_keys)), (a_this_one, .inl (k_this_one, 40, .inl r_this_one)), (a_this_two, .inl (k_this_two, 40, .inl r_this_two))] → va_S A s.heap H locs → lv_has ls 7 [(6, .int x6), (5, .int (p2 + (1 : Int32))), (0, .ref a_this), (1, .int p1), (2, .int p2), (3, .int p3), (4, .int p4)] → f_X8_doStrings_L105b r_this_one r_this_two p1 p2 p3 p4 fuel o_this_L105 r_this_bytes_L105 x6 = F → s_X8_doStrings_L105b p1 p2 p3 p4 fuel o_this_L105 r_this_bytes_L105 x6 → W p l e ({ frames := 3, cells := 0, slots := 0, locals := 78 } : Room) s m ([.ref a_this, .int p1, .int p2, .int p3, .int p4] : List Value).toArray below meth c H locs 0 0 Q (F0 m 105 ls []) := by
                intro fuel
                induction fuel with
                | zero => intro o_this_L105 r_this_bytes_L105 x6 H locs ls hm; exact absurd hm (Nat.not_lt_zero _)
                | succ fuel ih =>
                  intro o_this_L105 r_this_bytes_L105 x6 H locs ls hm  hP hD hS hl hF hs
                  rw [f_X8_doStrings_L105b] at hF
                  rw [s_X8_doStrings_L105b] at hs
                  skip
                  refine lv_iload hx hb dX8_doStrings_105 (lv_at hl 0 rfl) ?_
                  refine lv_iload hx hb dX8_doStrings_107 (lv_at hl 1 rfl) ?_
                  refine lv_icmp_ge (tgt := 213) hx hb dX8_doStrings_109 (by decide) (fun c_25 => ?_) (fun c_25 => ?_)
                  · skip
                    rw [if_pos c_25] at hF
                    rw [if_pos c_25] at hs
                    exact hQ (o_this_L105, r_this_bytes_L105, r_this_one, r_this_two) _ _ _ _ dX8_doStrings_213 hF.symm hP hD hS
                  · skip
                    rw [if_neg c_25] at hF
                    rw [if_neg c_25] at hs
                    refine lv_iload_n hx hb dX8_doStrings_112 rfl (lv_at hl 3 rfl) ?_
                    refine lv_sipush (v := 210) hx hb dX8_doStrings_113 (by decide) ?_
                    refine lv_icmp_ne (tgt := 141) hx hb dX8_doStrings_116 (by decide) (fun c_26 => ?_) (fun c_26 => ?_)
                    · skip
                      rw [if_neg c_26] at hF
                      rw [if_neg c_26] at hs
                      refine lv_iload_n hx hb dX8_doStrings_141 rfl (lv_at hl 3 rfl) ?_
                      refine lv_sipush (v := 220) hx hb dX8_doStrings_142 (by decide) ?_
                      refine lv_icmp_ne (tgt := 177) hx hb dX8_doStrings_145 (by decide) (fun c_27 => ?_) (fun c_27 => ?_)
                      · skip
                        rw [if_neg c_27] at hF
                        rw [if_neg c_27] at hs
                        refine lv_aload_n hx hb dX8_doStrings_177 rfl (lv_at hl 2 rfl) ?_
                        refine gf_X8_52 (v := .int o_this_L105.2.2.1) hx hb hown ht hK hP 0 rfl rfl dX8_doStrings_178 ?_
                        refine lv_if_ne (tgt := 207) hx hb dX8_doStrings_181 (by decide) (fun c_28 => ?_) (fun c_28 => ?_)
                        · skip
                          rw [if_neg c_28] at hF
                          rw [if_neg c_28] at hs
                          refine lv_iinc (v := (x6 + (1 : Int32))) (lv' := [(6, .int (x6 + (1 : Int32))), (5, .int (p2 + (1 : Int32))), (0, .ref a_this), (1, .int p1), (2, .int p2), (3, .int p3), (4, .int p4)]) hx hb dX8_doStrings_207 hl (k := 0) rfl rfl (by decide) rfl (fun ls hl => ?_)
                          refine lv_goto (tgt := 105) hx hb dX8_doStrings_210 (by decide) ?_
                          exact ih o_this_L105 r_this_bytes_L105 (x6 + (1 : Int32)) _ _ _ (by first | exact q_up hm c_1 | exact q_up hm c_2 | exact q_up hm c_5 | exact q_up hm c_6 | exact q_up hm c_9 | exact q_up hm c_10 | exact q_up hm c_25 | exact q_up hm c_26 | exact q_up hm c_27 | exact q_up hm c_28)  hP hD hS (lv_sub hl [0, 1, 2, 3, 4, 5, 6] rfl) hF hs
                        · skip
                          rw [if_pos c_28] at hF
                          rw [if_pos c_28] at hs
                          refine lv_aload_n hx hb dX8_doStrings_184 rfl (lv_at hl 2 rfl) ?_
                          refine lv_aload_n hx hb dX8_doStrings_185 rfl (lv_at hl 2 rfl) ?_
                          refine gf_X8_7 (v := .ref a_this_bytes) hx hb hown ht hK hP 0 rfl rfl dX8_doStrings_186 ?_
                          refine lv_iload_n hx hb dX8_doStrings_189 rfl (lv_at hl 5 rfl) ?_
                          refine lv_iload hx hb dX8_doStrings_190 (lv_at hl 0 rfl) ?_
                          refine lv_iadd hx hb dX8_doStrings_192 ?_
                          obtain ⟨hi_29, hs⟩ := hs
                          refine va_iald hx hb hK hP 1 0 rfl rfl hi_29 dX8_doStrings_193 ?_
                          refine lv_aload_n hx hb dX8_doStrings_194 rfl (lv_at hl 2 rfl) ?_
                          refine gf_X8_7 (v := .ref a_this_bytes) hx hb hown ht hK hP 0 rfl rfl dX8_doStrings_195 ?_
                          refine lv_iload hx hb dX8_doStrings_198 (lv_at hl 6 rfl) ?_
                          refine lv_iload hx hb dX8_doStrings_200 (lv_at hl 0 rfl) ?_
                          refine lv_iadd hx hb dX8_doStrings_202 ?_
                          obtain ⟨hi_30, hs⟩ := hs
                          refine va_iald hx hb hK hP 1 0 rfl rfl hi_30 dX8_doStrings_203 ?_
                          refine q_Vv (rest := []) (c_X8_compared l D a_this a_this_bytes a_this_keys a_this_reg a_this_card a_this_filled a_this_taken a_this_line a_this_one a_this_two o_this_L105 (r_this_bytes_L105 (p3 + x6).toNatClampNeg) (r_this_bytes_L105 (p4 + x6).toNatClampNeg)) cv_X8_compared hx hb hml hown ht hN hK hA hP hD hS hl.1 (km_X8_131) ⟨Nat.le_of_ble_eq_true rfl, Nat.le_of_ble_eq_true rfl⟩ rfl rfl [0] (by decide) rfl [] rfl (fun _ => rfl) (ci := 8) rfl rfl rfl rfl rfl (Nat.le_of_ble_eq_true rfl) dX8_doStrings_204 ⟨Nat.zero_le _, Nat.zero_le _⟩ (fun w_31 H locs hw hP hD hS => ?_)
                          have hP : va_P D vwCl [(a_this, oX8 a_this_bytes a_this_keys a_this_reg a_this_card a_this_filled a_this_taken a_this_line a_this_one a_this_two w_31), (a_this_bytes, .inl (k_this_bytes, 2048, .inl r_this_bytes_L105)), (a_this_keys, .inl (k_this_keys, 8, .inl r_this_keys)), (a_this_one, .inl (k_this_one, 40, .inl r_this_one)), (a_this_two, .inl (k_this_two, 40, .inl r_this_two))] H := hP
                          have hD : va_D A [(a_this, oX8 a_this_bytes a_this_keys a_this_reg a_this_card a_this_filled a_this_taken a_this_line a_this_one a_this_two w_31), (a_this_bytes, .inl (k_this_bytes, 2048, .inl r_this_bytes_L105)), (a_this_keys, .inl (k_this_keys, 8, .inl r_this_keys)), (a_this_one, .inl (k_this_one, 40, .inl r_this_one)), (a_this_two, .inl (k_this_two, 40, .inl r_this_two))] := hD
                          rw [q_let_of hw] at hF
                          rw [q_let_of hw] at hs
                          refine lv_iinc (v := (x6 + (1 : Int32))) (lv' := [(6, .int (x6 + (1 : Int32))), (5, .int (p2 + (1 : Int32))), (0, .ref a_this), (1, .int p1), (2, .int p2), (3, .int p3), (4, .int p4)]) hx hb dX8_doStrings_207 hl (k := 0) rfl rfl (by decide) rfl (fun ls hl => ?_)
                          refine lv_goto (tgt := 105) hx hb dX8_doStrings_210 (by decide) ?_
                          exact ih w_31 r_this_bytes_L105 (x6 + (1 : Int32)) _ _ _ (by first | exact q_up hm c_1 | exact q_up hm c_2 | exact q_up hm c_5 | exact q_up hm c_6 | exact q_up hm c_9 | exact q_up hm c_10 | exact q_up hm c_25 | exact q_up hm c_26 | exact q_up hm c_27 | exact q_up hm c_28)  hP hD hS (lv_sub hl [0, 1, 2, 3, 4, 5, 6] rfl) hF hs
                      · skip
                        rw [if_pos c_27] at hF
                        rw [if_pos c_27] at hs
                        refine lv_aload_n hx hb dX8_doStrings_148 rfl (lv_at hl 2 rfl) ?_
                        refine gf_X8_7 (v := .ref a_this_bytes) hx hb hown ht hK hP 0 rfl rfl dX8_doStrings_149 ?_
                        refine lv_iload_n hx hb dX8_doStrings_152 rfl (lv_at hl 5 rfl) ?_
                        refine lv_iload hx hb dX8_doStrings_153 (lv_at hl 0 rfl) ?_
                        refine lv_iadd hx hb dX8_doStrings_155 ?_
                        refine lv_aload_n hx hb dX8_doStrings_156 rfl (lv_at hl 2 rfl) ?_
                        refine gf_X8_7 (v := .ref a_this_bytes) hx hb hown ht hK hP 0 rfl rfl dX8_doStrings_157 ?_
                        refine lv_iload hx hb dX8_doStrings_160 (lv_at hl 6 rfl) ?_
                        refine lv_aload_n hx hb dX8_doStrings_162 rfl (lv_at hl 2 rfl) ?_
                        refine gf_X8_7 (v := .ref a_this_bytes) hx hb hown ht hK hP 0 rfl rfl dX8_doStrings_163 ?_
                        refine lv_iload_n hx hb dX8_doStrings_166 rfl (lv_at hl 5 rfl) ?_
                        refine lv_iload hx hb dX8_doStrings_167 (lv_at hl 0 rfl) ?_
                        refine lv_iadd hx hb dX8_doStrings_169 ?_
                        obtain ⟨hi_32, hs⟩ := hs
                        refine va_iald hx hb hK hP 1 0 rfl rfl hi_32 dX8_doStrings_170 ?_
                        refine lv_iadd hx hb dX8_doStrings_171 ?_
                        obtain ⟨hi_33, hs⟩ := hs
                        refine va_iald hx hb hK hP 1 0 rfl rfl hi_33 dX8_doStrings_172 ?_
                        obtain ⟨hi_34, hs⟩ := hs
                        refine va_iast hx hb hK hP hD hS 1 0 rfl rfl hi_34 dX8_doStrings_173 (fun H locs hP hD hS => ?_)
                        have hP : va_P D vwCl [(a_this, oX8 a_this_bytes a_this_keys a_this_reg a_this_card a_this_filled a_this_taken a_this_line a_this_one a_this_two o_this_L105), (a_this_bytes, .inl (k_this_bytes, 2048, .inl (upd r_this_bytes_L105 (p3 + x6).toNatClampNeg (r_this_bytes_L105 (p4 + (r_this_bytes_L105 (p3 + x6).toNatClampNeg)).toNatClampNeg)))), (a_this_keys, .inl (k_this_keys, 8, .inl r_this_keys)), (a_this_one, .inl (k_this_one, 40, .inl r_this_one)), (a_this_two, .inl (k_this_two, 40, .inl r_this_two))] H := hP
                        have hD : va_D A [(a_this, oX8 a_this_bytes a_this_keys a_this_reg a_this_card a_this_filled a_this_taken a_this_line a_this_one a_this_two o_this_L105), (a_this_bytes, .inl (k_this_bytes, 2048, .inl (upd r_this_bytes_L105 (p3 + x6).toNatClampNeg (r_this_bytes_L105 (p4 + (r_this_bytes_L105 (p3 + x6).toNatClampNeg)).toNatClampNeg)))), (a_this_keys, .inl (k_this_keys, 8, .inl r_this_keys)), (a_this_one, .inl (k_this_one, 40, .inl r_this_one)), (a_this_two, .inl (k_this_two, 40, .inl r_this_two))] := hD
                        refine lv_goto (tgt := 207) hx hb dX8_doStrings_174 (by decide) ?_
                        refine lv_iinc (v := (x6 + (1 : Int32))) (lv' := [(6, .int (x6 + (1 : Int32))), (5, .int (p2 + (1 : Int32))), (0, .ref a_this), (1, .int p1), (2, .int p2), (3, .int p3), (4, .int p4)]) hx hb dX8_doStrings_207 hl (k := 0) rfl rfl (by decide) rfl (fun ls hl => ?_)
                        refine lv_goto (tgt := 105) hx hb dX8_doStrings_210 (by decide) ?_
                        exact ih o_this_L105 (upd r_this_bytes_L105 (p3 + x6).toNatClampNeg (r_this_bytes_L105 (p4 + (r_this_bytes_L105 (p3 + x6).toNatClampNeg)).toNatClampNeg)) (x6 + (1 : Int32)) _ _ _ (by first | exact q_up hm c_1 | exact q_up hm c_2 | exact q_up hm c_5 | exact q_up hm c_6 | exact q_up hm c_9 | exact q_up hm c_10 | exact q_up hm c_25 | exact q_up hm c_26 | exact q_up hm c_27)  hP hD hS (lv_sub hl [0, 1, 2, 3, 4, 5, 6] rfl) hF hs
                    · skip
                      rw [if_pos c_26] at hF
                      rw [if_pos c_26] at hs
                      refine lv_aload_n hx hb dX8_doStrings_119 rfl (lv_at hl 2 rfl) ?_
                      refine gf_X8_7 (v := .ref a_this_bytes) hx hb hown ht hK hP 0 rfl rfl dX8_doStrings_120 ?_
                      refine lv_iload_n hx hb dX8_doStrings_123 rfl (lv_at hl 5 rfl) ?_
                      refine lv_iload hx hb dX8_doStrings_124 (lv_at hl 0 rfl) ?_
                      refine lv_iadd hx hb dX8_doStrings_126 ?_
                      refine lv_aload_n hx hb dX8_doStrings_127 rfl (lv_at hl 2 rfl) ?_
                      refine gf_X8_7 (v := .ref a_this_bytes) hx hb hown ht hK hP 0 rfl rfl dX8_doStrings_128 ?_
                      refine lv_iload hx hb dX8_doStrings_131 (lv_at hl 6 rfl) ?_
                      refine lv_iload hx hb dX8_doStrings_133 (lv_at hl 0 rfl) ?_
                      refine lv_iadd hx hb dX8_doStrings_135 ?_
                      obtain ⟨hi_35, hs⟩ := hs
                      refine va_iald hx hb hK hP 1 0 rfl rfl hi_35 dX8_doStrings_136 ?_
                      obtain ⟨hi_36, hs⟩ := hs
                      refine va_iast hx hb hK hP hD hS 1 0 rfl rfl hi_36 dX8_doStrings_137 (fun H locs hP hD hS => ?_)
                      have hP : va_P D vwCl [(a_this, oX8 a_this_bytes a_this_keys a_this_reg a_this_card a_this_filled a_this_taken a_this_line a_this_one a_this_two o_this_L105), (a_this_bytes, .inl (k_this_bytes, 2048, .inl (upd r_this_bytes_L105 (p3 + x6).toNatClampNeg (r_this_bytes_L105 (p4 + x6).toNatClampNeg)))), (a_this_keys, .inl (k_this_keys, 8, .inl r_this_keys)), (a_this_one, .inl (k_this_one, 40, .inl r_this_one)), (a_this_two, .inl (k_this_two, 40, .inl r_this_two))] H := hP
                      have hD : va_D A [(a_this, oX8 a_this_bytes a_this_keys a_this_reg a_this_card a_this_filled a_this_taken a_this_line a_this_one a_this_two o_this_L105), (a_this_bytes, .inl (k_this_bytes, 2048, .inl (upd r_this_bytes_L105 (p3 + x6).toNatClampNeg (r_this_bytes_L105 (p4 + x6).toNatClampNeg)))), (a_this_keys, .inl (k_this_keys, 8, .inl r_this_keys)), (a_this_one, .inl (k_this_one, 40, .inl r_this_one)), (a_this_two, .inl (k_this_two, 40, .inl r_this_two))] := hD
                      refine lv_goto (tgt := 207) hx hb dX8_doStrings_138 (by decide) ?_
                      refine lv_iinc (v := (x6 + (1 : Int32))) (lv' := [(6, .int (x6 + (1 : Int32))), (5, .int (p2 + (1 : Int32))), (0, .ref a_this), (1, .int p1), (2, .int p2), (3, .int p3), (4, .int p4)]) hx hb dX8_doStrings_207 hl (k := 0) rfl rfl (by decide) rfl (fun ls hl => ?_)
                      refine lv_goto (tgt := 105) hx hb dX8_doStrings_210 (by decide) ?_
                      exact ih o_this_L105 (upd r_this_bytes_L105 (p3 + x6).toNatClampNeg (r_this_bytes_L105 (p4 + x6).toNatClampNeg)) (x6 + (1 : Int32)) _ _ _ (by first | exact q_up hm c_1 | exact q_up hm c_2 | exact q_up hm c_5 | exact q_up hm c_6 | exact q_up hm c_9 | exact q_up hm c_10 | exact q_up hm c_25 | exact q_up hm c_26)  hP hD hS (lv_sub hl [0, 1, 2, 3, 4, 5, 6] rfl) hF hs
              exact L105 ((((p2 + (1 : Int32)) : Int32).toInt - (0 : Int32).toInt).toNat + 1) (w_8.2.1, w_8.2.2.1, 0, w_8.2.2.2.2.1, w_8.2.2.2.2.2.1, w_8.2.2.2.2.2.2.1, w_8.2.2.2.2.2.2.2.1, w_8.2.2.2.2.2.2.2.2.1, w_8.2.2.2.2.2.2.2.2.2.1, w_8.2.2.2.2.2.2.2.2.2.2.1, w_8.2.2.2.2.2.2.2.2.2.2.2.1, w_8.2.2.2.2.2.2.2.2.2.2.2.2.1, w_8.2.2.2.2.2.2.2.2.2.2.2.2.2.1, w_8.2.2.2.2.2.2.2.2.2.2.2.2.2.2.1, w_8.2.2.2.2.2.2.2.2.2.2.2.2.2.2.2.1, w_8.2.2.2.2.2.2.2.2.2.2.2.2.2.2.2.2.1, w_8.2.2.2.2.2.2.2.2.2.2.2.2.2.2.2.2.2.1, w_8.2.2.2.2.2.2.2.2.2.2.2.2.2.2.2.2.2.2.1, w_8.2.2.2.2.2.2.2.2.2.2.2.2.2.2.2.2.2.2.2.1, w_8.2.2.2.2.2.2.2.2.2.2.2.2.2.2.2.2.2.2.2.2.1, w_8.2.2.2.2.2.2.2.2.2.2.2.2.2.2.2.2.2.2.2.2.2.1, w_8.2.2.2.2.2.2.2.2.2.2.2.2.2.2.2.2.2.2.2.2.2.2.1, w_8.2.2.2.2.2.2.2.2.2.2.2.2.2.2.2.2.2.2.2.2.2.2.2.1, w_8.2.2.2.2.2.2.2.2.2.2.2.2.2.2.2.2.2.2.2.2.2.2.2.2.1, w_8.2.2.2.2.2.2.2.2.2.2.2.2.2.2.2.2.2.2.2.2.2.2.2.2.2) r_this_bytes 0 _ _ _ (Nat.lt_succ_self _)  hP hD hS (lv_sub hl [0, 1, 2, 3, 4, 5, 6] rfl) hF hs
          · have c_9 : ¬ w_8.1 = true := by rw [(bI_eq0 _).mp c_9]; decide
            rw [if_neg c_9] at hF
            rw [if_neg c_9] at hs
            exact hQ (w_8.2, r_this_bytes, r_this_one, r_this_two) _ _ _ _ dX8_doStrings_82 hF.symm hP hD hS
        · skip
          rw [if_pos c_6] at hF
          rw [if_pos c_6] at hs
          refine lv_sipush (v := 256) hx hb dX8_doStrings_66 (by decide) ?_
          refine lv_goto (tgt := 74) hx hb dX8_doStrings_69 (by decide) ?_
          refine lv_iconst (v := 1) hx hb dX8_doStrings_74 (by decide) ?_
          refine lv_iconst (v := 0) hx hb dX8_doStrings_75 (by decide) ?_
          obtain ⟨hi_37, hs⟩ := hs
          refine q_Vi (rest := []) (c_X8_good l D a_this a_this_keys a_this_bytes a_this_reg a_this_card a_this_filled a_this_taken a_this_line a_this_one a_this_two k_this_keys w_4.2 r_this_keys p4 256 1 false hi_37) cv_X8_good hx hb hml hown ht hN hK hA hP hD hS hl.1 (km_X8_158) ⟨Nat.le_of_ble_eq_true rfl, Nat.le_of_ble_eq_true rfl⟩ rfl rfl [0, 2] (by decide) rfl [1] rfl (fun _ => rfl) (ci := 8) rfl rfl rfl rfl rfl (Nat.le_of_ble_eq_true rfl) dX8_doStrings_76 ⟨Nat.zero_le _, Nat.zero_le _⟩ (fun r w_38 H locs hw hP hD hS => ?_)
          obtain ⟨hw, hr⟩ := hw
          subst hr
          have hP : va_P D vwCl [(a_this, oX8 a_this_bytes a_this_keys a_this_reg a_this_card a_this_filled a_this_taken a_this_line a_this_one a_this_two w_38.2), (a_this_bytes, .inl (k_this_bytes, 2048, .inl r_this_bytes)), (a_this_keys, .inl (k_this_keys, 8, .inl r_this_keys)), (a_this_one, .inl (k_this_one, 40, .inl r_this_one)), (a_this_two, .inl (k_this_two, 40, .inl r_this_two))] H := hP
          have hD : va_D A [(a_this, oX8 a_this_bytes a_this_keys a_this_reg a_this_card a_this_filled a_this_taken a_this_line a_this_one a_this_two w_38.2), (a_this_bytes, .inl (k_this_bytes, 2048, .inl r_this_bytes)), (a_this_keys, .inl (k_this_keys, 8, .inl r_this_keys)), (a_this_one, .inl (k_this_one, 40, .inl r_this_one)), (a_this_two, .inl (k_this_two, 40, .inl r_this_two))] := hD
          rw [q_let_of hw] at hF
          rw [q_let_of hw] at hs
          refine lv_if_ne (tgt := 83) hx hb dX8_doStrings_79 (by decide) (fun c_39 => ?_) (fun c_39 => ?_)
          · have c_39 := (bI_ne0 _).mp c_39
            rw [if_pos c_39] at hF
            rw [if_pos c_39] at hs
            refine lv_aload_n hx hb dX8_doStrings_83 rfl (lv_at hl 1 rfl) ?_
            refine lv_iload_n hx hb dX8_doStrings_84 rfl (lv_at hl 2 rfl) ?_
            refine lv_sipush (v := 213) hx hb dX8_doStrings_85 (by decide) ?_
            refine lv_icmp_ne (tgt := 95) hx hb dX8_doStrings_88 (by decide) (fun c_40 => ?_) (fun c_40 => ?_)
            · skip
              rw [if_neg c_40] at hF
              rw [if_neg c_40] at hs
              refine lv_aload_n hx hb dX8_doStrings_95 rfl (lv_at hl 1 rfl) ?_
              refine gf_X8_52 (v := .int w_38.2.2.2.1) hx hb hown ht hK hP 0 rfl rfl dX8_doStrings_96 ?_
              refine pf_X8_52 (x := w_38.2.2.2.1) hx hb hown ht hK hP hD hS 0 rfl (Nat.le_of_ble_eq_true rfl) dX8_doStrings_99 (fun H locs hP hD hS => ?_)
              have hP : va_P D vwCl [(a_this, oX8 a_this_bytes a_this_keys a_this_reg a_this_card a_this_filled a_this_taken a_this_line a_this_one a_this_two w_38.2), (a_this_bytes, .inl (k_this_bytes, 2048, .inl r_this_bytes)), (a_this_keys, .inl (k_this_keys, 8, .inl r_this_keys)), (a_this_one, .inl (k_this_one, 40, .inl r_this_one)), (a_this_two, .inl (k_this_two, 40, .inl r_this_two))] H := hP
              have hD : va_D A [(a_this, oX8 a_this_bytes a_this_keys a_this_reg a_this_card a_this_filled a_this_taken a_this_line a_this_one a_this_two w_38.2), (a_this_bytes, .inl (k_this_bytes, 2048, .inl r_this_bytes)), (a_this_keys, .inl (k_this_keys, 8, .inl r_this_keys)), (a_this_one, .inl (k_this_one, 40, .inl r_this_one)), (a_this_two, .inl (k_this_two, 40, .inl r_this_two))] := hD
              refine lv_iconst (v := 0) hx hb dX8_doStrings_102 (by decide) ?_
              refine lv_istore (lv' := [(6, .int 0), (5, .int (p2 + (1 : Int32))), (0, .ref a_this), (1, .int p1), (2, .int p2), (3, .int p3), (4, .int p4)]) hx hb dX8_doStrings_103 hl (by decide) rfl (fun ls hl => ?_)
              have L105 : ∀ (fuel : Nat) (o_this_L105 : Int32 × Int32 × Int32 × Int32 × Bool × Bool × Int32 × Int32 × Int32 × Int32 × Bool × Bool × Bool × Int32 × Int32 × Int32 × Int32 × Int32 × Int32 × Int32 × Int32 × Int32 × Int32 × Int32 × Int32) (r_this_bytes_L105 : Nat → Int32) (x6 : Int32) (H : Heap) (locs : List Loc) (ls : Array Slot), (((p2 + (1 : Int32)) : Int32).toInt - (x6 : Int32).toInt).toNat < fuel → va_P D vwCl [(a_this, oX8 a_this_bytes a_this_keys a_this_reg a_this_card a_this_filled a_this_taken a_this_line a_this_one a_this_two o_this_L105), (a_this_bytes, .inl (k_this_bytes, 2048, .inl r_this_bytes_L105)), (a_this_keys, .inl (k_this_keys, 8, .inl r_this_keys)), (a_this_one, .inl (k_this_one, 40, .inl r_this_one)), (a_this_two, .inl (k_this_two, 40, .inl r_this_two))] H → va_D A [(a_this, oX8 a_this_bytes a_this_keys a_this_reg a_this_card a_this_filled a_this_taken a_this_line a_this_one a_this_two o_this_L105), (a_this_bytes, .inl (k_this_bytes, 2048, .inl r_this_bytes_L105)), (a_this_keys, .inl (k_this_keys, 8, .inl r_this_keys)), (a_this_one, .inl (k_this_one, 40, .inl r_this_one)), (a_this_two, .inl (k_this_two, 40, .inl r_this_two))] → va_S A s.heap H locs → lv_has ls 7 [(6, .int x6), (5, .int (p2 + (1 : Int32))), (0, .ref a_this), (1, .int p1), (2, .int p2), (3, .int p3), (4, .int p4)] → f_X8_doStrings_L105bb r_this_one r_this_two p1 p2 p3 p4 fuel o_this_L105 r_this_bytes_L105 x6 = F → s_X8_doStrings_L105bb p1 p2 p3 p4 fuel o_this_L105 r_this_bytes_L105 x6 → W p l e ({ frames := 3, cells := 0, slots := 0, locals := 78 } : Room) s m ([.ref a_this, .int p1, .int p2, .int p3, .int p4] : List Value).toArray below meth c H locs 0 0 Q (F0 m 105 ls []) := by
                intro fuel
                induction fuel with
                | zero => intro o_this_L105 r_this_bytes_L105 x6 H locs ls hm; exact absurd hm (Nat.not_lt_zero _)
                | succ fuel ih =>
                  intro o_this_L105 r_this_bytes_L105 x6 H locs ls hm  hP hD hS hl hF hs
                  rw [f_X8_doStrings_L105bb] at hF
                  rw [s_X8_doStrings_L105bb] at hs
                  skip
                  refine lv_iload hx hb dX8_doStrings_105 (lv_at hl 0 rfl) ?_
                  refine lv_iload hx hb dX8_doStrings_107 (lv_at hl 1 rfl) ?_
                  refine lv_icmp_ge (tgt := 213) hx hb dX8_doStrings_109 (by decide) (fun c_42 => ?_) (fun c_42 => ?_)
                  · skip
                    rw [if_pos c_42] at hF
                    rw [if_pos c_42] at hs
                    exact hQ (o_this_L105, r_this_bytes_L105, r_this_one, r_this_two) _ _ _ _ dX8_doStrings_213 hF.symm hP hD hS
                  · skip
                    rw [if_neg c_42] at hF
                    rw [if_neg c_42] at hs
                    refine lv_iload_n hx hb dX8_doStrings_112 rfl (lv_at hl 3 rfl) ?_
                    refine lv_sipush (v := 210) hx hb dX8_doStrings_113 (by decide) ?_
                    refine lv_icmp_ne (tgt := 141) hx hb dX8_doStrings_116 (by decide) (fun c_43 => ?_) (fun c_43 => ?_)
                    · skip
                      rw [if_neg c_43] at hF
                      rw [if_neg c_43] at hs
                      refine lv_iload_n hx hb dX8_doStrings_141 rfl (lv_at hl 3 rfl) ?_
                      refine lv_sipush (v := 220) hx hb dX8_doStrings_142 (by decide) ?_
                      refine lv_icmp_ne (tgt := 177) hx hb dX8_doStrings_145 (by decide) (fun c_44 => ?_) (fun c_44 => ?_)
                      · skip
                        rw [if_neg c_44] at hF
                        rw [if_neg c_44] at hs
                        refine lv_aload_n hx hb dX8_doStrings_177 rfl (lv_at hl 2 rfl) ?_
                        refine gf_X8_52 (v := .int o_this_L105.2.2.1) hx hb hown ht hK hP 0 rfl rfl dX8_doStrings_178 ?_
                        refine lv_if_ne (tgt := 207) hx hb dX8_doStrings_181 (by decide) (fun c_45 => ?_) (fun c_45 => ?_)
                        · skip
                          rw [if_neg c_45] at hF
                          rw [if_neg c_45] at hs
                          refine lv_iinc (v := (x6 + (1 : Int32))) (lv' := [(6, .int (x6 + (1 : Int32))), (5, .int (p2 + (1 : Int32))), (0, .ref a_this), (1, .int p1), (2, .int p2), (3, .int p3), (4, .int p4)]) hx hb dX8_doStrings_207 hl (k := 0) rfl rfl (by decide) rfl (fun ls hl => ?_)
                          refine lv_goto (tgt := 105) hx hb dX8_doStrings_210 (by decide) ?_
                          exact ih o_this_L105 r_this_bytes_L105 (x6 + (1 : Int32)) _ _ _ (by first | exact q_up hm c_1 | exact q_up hm c_2 | exact q_up hm c_5 | exact q_up hm c_6 | exact q_up hm c_39 | exact q_up hm c_40 | exact q_up hm c_42 | exact q_up hm c_43 | exact q_up hm c_44 | exact q_up hm c_45)  hP hD hS (lv_sub hl [0, 1, 2, 3, 4, 5, 6] rfl) hF hs
                        · skip
                          rw [if_pos c_45] at hF
                          rw [if_pos c_45] at hs
                          refine lv_aload_n hx hb dX8_doStrings_184 rfl (lv_at hl 2 rfl) ?_
                          refine lv_aload_n hx hb dX8_doStrings_185 rfl (lv_at hl 2 rfl) ?_
                          refine gf_X8_7 (v := .ref a_this_bytes) hx hb hown ht hK hP 0 rfl rfl dX8_doStrings_186 ?_
                          refine lv_iload_n hx hb dX8_doStrings_189 rfl (lv_at hl 5 rfl) ?_
                          refine lv_iload hx hb dX8_doStrings_190 (lv_at hl 0 rfl) ?_
                          refine lv_iadd hx hb dX8_doStrings_192 ?_
                          obtain ⟨hi_46, hs⟩ := hs
                          refine va_iald hx hb hK hP 1 0 rfl rfl hi_46 dX8_doStrings_193 ?_
                          refine lv_aload_n hx hb dX8_doStrings_194 rfl (lv_at hl 2 rfl) ?_
                          refine gf_X8_7 (v := .ref a_this_bytes) hx hb hown ht hK hP 0 rfl rfl dX8_doStrings_195 ?_
                          refine lv_iload hx hb dX8_doStrings_198 (lv_at hl 6 rfl) ?_
                          refine lv_iload hx hb dX8_doStrings_200 (lv_at hl 0 rfl) ?_
                          refine lv_iadd hx hb dX8_doStrings_202 ?_
                          obtain ⟨hi_47, hs⟩ := hs
                          refine va_iald hx hb hK hP 1 0 rfl rfl hi_47 dX8_doStrings_203 ?_
                          refine q_Vv (rest := []) (c_X8_compared l D a_this a_this_bytes a_this_keys a_this_reg a_this_card a_this_filled a_this_taken a_this_line a_this_one a_this_two o_this_L105 (r_this_bytes_L105 (p3 + x6).toNatClampNeg) (r_this_bytes_L105 (p4 + x6).toNatClampNeg)) cv_X8_compared hx hb hml hown ht hN hK hA hP hD hS hl.1 (km_X8_131) ⟨Nat.le_of_ble_eq_true rfl, Nat.le_of_ble_eq_true rfl⟩ rfl rfl [0] (by decide) rfl [] rfl (fun _ => rfl) (ci := 8) rfl rfl rfl rfl rfl (Nat.le_of_ble_eq_true rfl) dX8_doStrings_204 ⟨Nat.zero_le _, Nat.zero_le _⟩ (fun w_48 H locs hw hP hD hS => ?_)
                          have hP : va_P D vwCl [(a_this, oX8 a_this_bytes a_this_keys a_this_reg a_this_card a_this_filled a_this_taken a_this_line a_this_one a_this_two w_48), (a_this_bytes, .inl (k_this_bytes, 2048, .inl r_this_bytes_L105)), (a_this_keys, .inl (k_this_keys, 8, .inl r_this_keys)), (a_this_one, .inl (k_this_one, 40, .inl r_this_one)), (a_this_two, .inl (k_this_two, 40, .inl r_this_two))] H := hP
                          have hD : va_D A [(a_this, oX8 a_this_bytes a_this_keys a_this_reg a_this_card a_this_filled a_this_taken a_this_line a_this_one a_this_two w_48), (a_this_bytes, .inl (k_this_bytes, 2048, .inl r_this_bytes_L105)), (a_this_keys, .inl (k_this_keys, 8, .inl r_this_keys)), (a_this_one, .inl (k_this_one, 40, .inl r_this_one)), (a_this_two, .inl (k_this_two, 40, .inl r_this_two))] := hD
                          rw [q_let_of hw] at hF
                          rw [q_let_of hw] at hs
                          refine lv_iinc (v := (x6 + (1 : Int32))) (lv' := [(6, .int (x6 + (1 : Int32))), (5, .int (p2 + (1 : Int32))), (0, .ref a_this), (1, .int p1), (2, .int p2), (3, .int p3), (4, .int p4)]) hx hb dX8_doStrings_207 hl (k := 0) rfl rfl (by decide) rfl (fun ls hl => ?_)
                          refine lv_goto (tgt := 105) hx hb dX8_doStrings_210 (by decide) ?_
                          exact ih w_48 r_this_bytes_L105 (x6 + (1 : Int32)) _ _ _ (by first | exact q_up hm c_1 | exact q_up hm c_2 | exact q_up hm c_5 | exact q_up hm c_6 | exact q_up hm c_39 | exact q_up hm c_40 | exact q_up hm c_42 | exact q_up hm c_43 | exact q_up hm c_44 | exact q_up hm c_45)  hP hD hS (lv_sub hl [0, 1, 2, 3, 4, 5, 6] rfl) hF hs
                      · skip
                        rw [if_pos c_44] at hF
                        rw [if_pos c_44] at hs
                        refine lv_aload_n hx hb dX8_doStrings_148 rfl (lv_at hl 2 rfl) ?_
                        refine gf_X8_7 (v := .ref a_this_bytes) hx hb hown ht hK hP 0 rfl rfl dX8_doStrings_149 ?_
                        refine lv_iload_n hx hb dX8_doStrings_152 rfl (lv_at hl 5 rfl) ?_
                        refine lv_iload hx hb dX8_doStrings_153 (lv_at hl 0 rfl) ?_
                        refine lv_iadd hx hb dX8_doStrings_155 ?_
                        refine lv_aload_n hx hb dX8_doStrings_156 rfl (lv_at hl 2 rfl) ?_
                        refine gf_X8_7 (v := .ref a_this_bytes) hx hb hown ht hK hP 0 rfl rfl dX8_doStrings_157 ?_
                        refine lv_iload hx hb dX8_doStrings_160 (lv_at hl 6 rfl) ?_
                        refine lv_aload_n hx hb dX8_doStrings_162 rfl (lv_at hl 2 rfl) ?_
                        refine gf_X8_7 (v := .ref a_this_bytes) hx hb hown ht hK hP 0 rfl rfl dX8_doStrings_163 ?_
                        refine lv_iload_n hx hb dX8_doStrings_166 rfl (lv_at hl 5 rfl) ?_
                        refine lv_iload hx hb dX8_doStrings_167 (lv_at hl 0 rfl) ?_
                        refine lv_iadd hx hb dX8_doStrings_169 ?_
                        obtain ⟨hi_49, hs⟩ := hs
                        refine va_iald hx hb hK hP 1 0 rfl rfl hi_49 dX8_doStrings_170 ?_
                        refine lv_iadd hx hb dX8_doStrings_171 ?_
                        obtain ⟨hi_50, hs⟩ := hs
                        refine va_iald hx hb hK hP 1 0 rfl rfl hi_50 dX8_doStrings_172 ?_
                        obtain ⟨hi_51, hs⟩ := hs
                        refine va_iast hx hb hK hP hD hS 1 0 rfl rfl hi_51 dX8_doStrings_173 (fun H locs hP hD hS => ?_)
                        have hP : va_P D vwCl [(a_this, oX8 a_this_bytes a_this_keys a_this_reg a_this_card a_this_filled a_this_taken a_this_line a_this_one a_this_two o_this_L105), (a_this_bytes, .inl (k_this_bytes, 2048, .inl (upd r_this_bytes_L105 (p3 + x6).toNatClampNeg (r_this_bytes_L105 (p4 + (r_this_bytes_L105 (p3 + x6).toNatClampNeg)).toNatClampNeg)))), (a_this_keys, .inl (k_this_keys, 8, .inl r_this_keys)), (a_this_one, .inl (k_this_one, 40, .inl r_this_one)), (a_this_two, .inl (k_this_two, 40, .inl r_this_two))] H := hP
                        have hD : va_D A [(a_this, oX8 a_this_bytes a_this_keys a_this_reg a_this_card a_this_filled a_this_taken a_this_line a_this_one a_this_two o_this_L105), (a_this_bytes, .inl (k_this_bytes, 2048, .inl (upd r_this_bytes_L105 (p3 + x6).toNatClampNeg (r_this_bytes_L105 (p4 + (r_this_bytes_L105 (p3 + x6).toNatClampNeg)).toNatClampNeg)))), (a_this_keys, .inl (k_this_keys, 8, .inl r_this_keys)), (a_this_one, .inl (k_this_one, 40, .inl r_this_one)), (a_this_two, .inl (k_this_two, 40, .inl r_this_two))] := hD
                        refine lv_goto (tgt := 207) hx hb dX8_doStrings_174 (by decide) ?_
                        refine lv_iinc (v := (x6 + (1 : Int32))) (lv' := [(6, .int (x6 + (1 : Int32))), (5, .int (p2 + (1 : Int32))), (0, .ref a_this), (1, .int p1), (2, .int p2), (3, .int p3), (4, .int p4)]) hx hb dX8_doStrings_207 hl (k := 0) rfl rfl (by decide) rfl (fun ls hl => ?_)
                        refine lv_goto (tgt := 105) hx hb dX8_doStrings_210 (by decide) ?_
                        exact ih o_this_L105 (upd r_this_bytes_L105 (p3 + x6).toNatClampNeg (r_this_bytes_L105 (p4 + (r_this_bytes_L105 (p3 + x6).toNatClampNeg)).toNatClampNeg)) (x6 + (1 : Int32)) _ _ _ (by first | exact q_up hm c_1 | exact q_up hm c_2 | exact q_up hm c_5 | exact q_up hm c_6 | exact q_up hm c_39 | exact q_up hm c_40 | exact q_up hm c_42 | exact q_up hm c_43 | exact q_up hm c_44)  hP hD hS (lv_sub hl [0, 1, 2, 3, 4, 5, 6] rfl) hF hs
                    · skip
                      rw [if_pos c_43] at hF
                      rw [if_pos c_43] at hs
                      refine lv_aload_n hx hb dX8_doStrings_119 rfl (lv_at hl 2 rfl) ?_
                      refine gf_X8_7 (v := .ref a_this_bytes) hx hb hown ht hK hP 0 rfl rfl dX8_doStrings_120 ?_
                      refine lv_iload_n hx hb dX8_doStrings_123 rfl (lv_at hl 5 rfl) ?_
                      refine lv_iload hx hb dX8_doStrings_124 (lv_at hl 0 rfl) ?_
                      refine lv_iadd hx hb dX8_doStrings_126 ?_
                      refine lv_aload_n hx hb dX8_doStrings_127 rfl (lv_at hl 2 rfl) ?_
                      refine gf_X8_7 (v := .ref a_this_bytes) hx hb hown ht hK hP 0 rfl rfl dX8_doStrings_128 ?_
                      refine lv_iload hx hb dX8_doStrings_131 (lv_at hl 6 rfl) ?_
                      refine lv_iload hx hb dX8_doStrings_133 (lv_at hl 0 rfl) ?_
                      refine lv_iadd hx hb dX8_doStrings_135 ?_
                      obtain ⟨hi_52, hs⟩ := hs
                      refine va_iald hx hb hK hP 1 0 rfl rfl hi_52 dX8_doStrings_136 ?_
                      obtain ⟨hi_53, hs⟩ := hs
                      refine va_iast hx hb hK hP hD hS 1 0 rfl rfl hi_53 dX8_doStrings_137 (fun H locs hP hD hS => ?_)
                      have hP : va_P D vwCl [(a_this, oX8 a_this_bytes a_this_keys a_this_reg a_this_card a_this_filled a_this_taken a_this_line a_this_one a_this_two o_this_L105), (a_this_bytes, .inl (k_this_bytes, 2048, .inl (upd r_this_bytes_L105 (p3 + x6).toNatClampNeg (r_this_bytes_L105 (p4 + x6).toNatClampNeg)))), (a_this_keys, .inl (k_this_keys, 8, .inl r_this_keys)), (a_this_one, .inl (k_this_one, 40, .inl r_this_one)), (a_this_two, .inl (k_this_two, 40, .inl r_this_two))] H := hP
                      have hD : va_D A [(a_this, oX8 a_this_bytes a_this_keys a_this_reg a_this_card a_this_filled a_this_taken a_this_line a_this_one a_this_two o_this_L105), (a_this_bytes, .inl (k_this_bytes, 2048, .inl (upd r_this_bytes_L105 (p3 + x6).toNatClampNeg (r_this_bytes_L105 (p4 + x6).toNatClampNeg)))), (a_this_keys, .inl (k_this_keys, 8, .inl r_this_keys)), (a_this_one, .inl (k_this_one, 40, .inl r_this_one)), (a_this_two, .inl (k_this_two, 40, .inl r_this_two))] := hD
                      refine lv_goto (tgt := 207) hx hb dX8_doStrings_138 (by decide) ?_
                      refine lv_iinc (v := (x6 + (1 : Int32))) (lv' := [(6, .int (x6 + (1 : Int32))), (5, .int (p2 + (1 : Int32))), (0, .ref a_this), (1, .int p1), (2, .int p2), (3, .int p3), (4, .int p4)]) hx hb dX8_doStrings_207 hl (k := 0) rfl rfl (by decide) rfl (fun ls hl => ?_)
                      refine lv_goto (tgt := 105) hx hb dX8_doStrings_210 (by decide) ?_
                      exact ih o_this_L105 (upd r_this_bytes_L105 (p3 + x6).toNatClampNeg (r_this_bytes_L105 (p4 + x6).toNatClampNeg)) (x6 + (1 : Int32)) _ _ _ (by first | exact q_up hm c_1 | exact q_up hm c_2 | exact q_up hm c_5 | exact q_up hm c_6 | exact q_up hm c_39 | exact q_up hm c_40 | exact q_up hm c_42 | exact q_up hm c_43)  hP hD hS (lv_sub hl [0, 1, 2, 3, 4, 5, 6] rfl) hF hs
              exact L105 ((((p2 + (1 : Int32)) : Int32).toInt - (0 : Int32).toInt).toNat + 1) w_38.2 r_this_bytes 0 _ _ _ (Nat.lt_succ_self _)  hP hD hS (lv_sub hl [0, 1, 2, 3, 4, 5, 6] rfl) hF hs
            · skip
              rw [if_pos c_40] at hF
              rw [if_pos c_40] at hs
              refine lv_iconst (v := 0) hx hb dX8_doStrings_91 (by decide) ?_
              refine lv_goto (tgt := 99) hx hb dX8_doStrings_92 (by decide) ?_
              refine pf_X8_52 (x := 0) hx hb hown ht hK hP hD hS 0 rfl (Nat.le_of_ble_eq_true rfl) dX8_doStrings_99 (fun H locs hP hD hS => ?_)
              have hP : va_P D vwCl [(a_this, oX8 a_this_bytes a_this_keys a_this_reg a_this_card a_this_filled a_this_taken a_this_line a_this_one a_this_two (w_38.2.1, w_38.2.2.1, 0, w_38.2.2.2.2.1, w_38.2.2.2.2.2.1, w_38.2.2.2.2.2.2.1, w_38.2.2.2.2.2.2.2.1, w_38.2.2.2.2.2.2.2.2.1, w_38.2.2.2.2.2.2.2.2.2.1, w_38.2.2.2.2.2.2.2.2.2.2.1, w_38.2.2.2.2.2.2.2.2.2.2.2.1, w_38.2.2.2.2.2.2.2.2.2.2.2.2.1, w_38.2.2.2.2.2.2.2.2.2.2.2.2.2.1, w_38.2.2.2.2.2.2.2.2.2.2.2.2.2.2.1, w_38.2.2.2.2.2.2.2.2.2.2.2.2.2.2.2.1, w_38.2.2.2.2.2.2.2.2.2.2.2.2.2.2.2.2.1, w_38.2.2.2.2.2.2.2.2.2.2.2.2.2.2.2.2.2.1, w_38.2.2.2.2.2.2.2.2.2.2.2.2.2.2.2.2.2.2.1, w_38.2.2.2.2.2.2.2.2.2.2.2.2.2.2.2.2.2.2.2.1, w_38.2.2.2.2.2.2.2.2.2.2.2.2.2.2.2.2.2.2.2.2.1, w_38.2.2.2.2.2.2.2.2.2.2.2.2.2.2.2.2.2.2.2.2.2.1, w_38.2.2.2.2.2.2.2.2.2.2.2.2.2.2.2.2.2.2.2.2.2.2.1, w_38.2.2.2.2.2.2.2.2.2.2.2.2.2.2.2.2.2.2.2.2.2.2.2.1, w_38.2.2.2.2.2.2.2.2.2.2.2.2.2.2.2.2.2.2.2.2.2.2.2.2.1, w_38.2.2.2.2.2.2.2.2.2.2.2.2.2.2.2.2.2.2.2.2.2.2.2.2.2)), (a_this_bytes, .inl (k_this_bytes, 2048, .inl r_this_bytes)), (a_this_keys, .inl (k_this_keys, 8, .inl r_this_keys)), (a_this_one, .inl (k_this_one, 40, .inl r_this_one)), (a_this_two, .inl (k_this_two, 40, .inl r_this_two))] H := hP
              have hD : va_D A [(a_this, oX8 a_this_bytes a_this_keys a_this_reg a_this_card a_this_filled a_this_taken a_this_line a_this_one a_this_two (w_38.2.1, w_38.2.2.1, 0, w_38.2.2.2.2.1, w_38.2.2.2.2.2.1, w_38.2.2.2.2.2.2.1, w_38.2.2.2.2.2.2.2.1, w_38.2.2.2.2.2.2.2.2.1, w_38.2.2.2.2.2.2.2.2.2.1, w_38.2.2.2.2.2.2.2.2.2.2.1, w_38.2.2.2.2.2.2.2.2.2.2.2.1, w_38.2.2.2.2.2.2.2.2.2.2.2.2.1, w_38.2.2.2.2.2.2.2.2.2.2.2.2.2.1, w_38.2.2.2.2.2.2.2.2.2.2.2.2.2.2.1, w_38.2.2.2.2.2.2.2.2.2.2.2.2.2.2.2.1, w_38.2.2.2.2.2.2.2.2.2.2.2.2.2.2.2.2.1, w_38.2.2.2.2.2.2.2.2.2.2.2.2.2.2.2.2.2.1, w_38.2.2.2.2.2.2.2.2.2.2.2.2.2.2.2.2.2.2.1, w_38.2.2.2.2.2.2.2.2.2.2.2.2.2.2.2.2.2.2.2.1, w_38.2.2.2.2.2.2.2.2.2.2.2.2.2.2.2.2.2.2.2.2.1, w_38.2.2.2.2.2.2.2.2.2.2.2.2.2.2.2.2.2.2.2.2.2.1, w_38.2.2.2.2.2.2.2.2.2.2.2.2.2.2.2.2.2.2.2.2.2.2.1, w_38.2.2.2.2.2.2.2.2.2.2.2.2.2.2.2.2.2.2.2.2.2.2.2.1, w_38.2.2.2.2.2.2.2.2.2.2.2.2.2.2.2.2.2.2.2.2.2.2.2.2.1, w_38.2.2.2.2.2.2.2.2.2.2.2.2.2.2.2.2.2.2.2.2.2.2.2.2.2)), (a_this_bytes, .inl (k_this_bytes, 2048, .inl r_this_bytes)), (a_this_keys, .inl (k_this_keys, 8, .inl r_this_keys)), (a_this_one, .inl (k_this_one, 40, .inl r_this_one)), (a_this_two, .inl (k_this_two, 40, .inl r_this_two))] := hD
              refine lv_iconst (v := 0) hx hb dX8_doStrings_102 (by decide) ?_
              refine lv_istore (lv' := [(6, .int 0), (5, .int (p2 + (1 : Int32))), (0, .ref a_this), (1, .int p1), (2, .int p2), (3, .int p3), (4, .int p4)]) hx hb dX8_doStrings_103 hl (by decide) rfl (fun ls hl => ?_)
              have L105 : ∀ (fuel : Nat) (o_this_L105 : Int32 × Int32 × Int32 × Int32 × Bool × Bool × Int32 × Int32 × Int32 × Int32 × Bool × Bool × Bool × Int32 × Int32 × Int32 × Int32 × Int32 × Int32 × Int32 × Int32 × Int32 × Int32 × Int32 × Int32) (r_this_bytes_L105 : Nat → Int32) (x6 : Int32) (H : Heap) (locs : List Loc) (ls : Array Slot), (((p2 + (1 : Int32)) : Int32).toInt - (x6 : Int32).toInt).toNat < fuel → va_P D vwCl [(a_this, oX8 a_this_bytes a_this_keys a_this_reg a_this_card a_this_filled a_this_taken a_this_line a_this_one a_this_two o_this_L105), (a_this_bytes, .inl (k_this_bytes, 2048, .inl r_this_bytes_L105)), (a_this_keys, .inl (k_this_keys, 8, .inl r_this_keys)), (a_this_one, .inl (k_this_one, 40, .inl r_this_one)), (a_this_two, .inl (k_this_two, 40, .inl r_this_two))] H → va_D A [(a_this, oX8 a_this_bytes a_this_keys a_this_reg a_this_card a_this_filled a_this_taken a_this_line a_this_one a_this_two o_this_L105), (a_this_bytes, .inl (k_this_bytes, 2048, .inl r_this_bytes_L105)), (a_this_keys, .inl (k_this_keys, 8, .inl r_this_keys)), (a_this_one, .inl (k_this_one, 40, .inl r_this_one)), (a_this_two, .inl (k_this_two, 40, .inl r_this_two))] → va_S A s.heap H locs → lv_has ls 7 [(6, .int x6), (5, .int (p2 + (1 : Int32))), (0, .ref a_this), (1, .int p1), (2, .int p2), (3, .int p3), (4, .int p4)] → f_X8_doStrings_L105bbb r_this_one r_this_two p1 p2 p3 p4 fuel o_this_L105 r_this_bytes_L105 x6 = F → s_X8_doStrings_L105bbb p1 p2 p3 p4 fuel o_this_L105 r_this_bytes_L105 x6 → W p l e ({ frames := 3, cells := 0, slots := 0, locals := 78 } : Room) s m ([.ref a_this, .int p1, .int p2, .int p3, .int p4] : List Value).toArray below meth c H locs 0 0 Q (F0 m 105 ls []) := by
                intro fuel
                induction fuel with
                | zero => intro o_this_L105 r_this_bytes_L105 x6 H locs ls hm; exact absurd hm (Nat.not_lt_zero _)
                | succ fuel ih =>
                  intro o_this_L105 r_this_bytes_L105 x6 H locs ls hm  hP hD hS hl hF hs
                  rw [f_X8_doStrings_L105bbb] at hF
                  rw [s_X8_doStrings_L105bbb] at hs
                  skip
                  refine lv_iload hx hb dX8_doStrings_105 (lv_at hl 0 rfl) ?_
                  refine lv_iload hx hb dX8_doStrings_107 (lv_at hl 1 rfl) ?_
                  refine lv_icmp_ge (tgt := 213) hx hb dX8_doStrings_109 (by decide) (fun c_55 => ?_) (fun c_55 => ?_)
                  · skip
                    rw [if_pos c_55] at hF
                    rw [if_pos c_55] at hs
                    exact hQ (o_this_L105, r_this_bytes_L105, r_this_one, r_this_two) _ _ _ _ dX8_doStrings_213 hF.symm hP hD hS
                  · skip
                    rw [if_neg c_55] at hF
                    rw [if_neg c_55] at hs
                    refine lv_iload_n hx hb dX8_doStrings_112 rfl (lv_at hl 3 rfl) ?_
                    refine lv_sipush (v := 210) hx hb dX8_doStrings_113 (by decide) ?_
                    refine lv_icmp_ne (tgt := 141) hx hb dX8_doStrings_116 (by decide) (fun c_56 => ?_) (fun c_56 => ?_)
                    · skip
                      rw [if_neg c_56] at hF
                      rw [if_neg c_56] at hs
                      refine lv_iload_n hx hb dX8_doStrings_141 rfl (lv_at hl 3 rfl) ?_
                      refine lv_sipush (v := 220) hx hb dX8_doStrings_142 (by decide) ?_
                      refine lv_icmp_ne (tgt := 177) hx hb dX8_doStrings_145 (by decide) (fun c_57 => ?_) (fun c_57 => ?_)
                      · skip
                        rw [if_neg c_57] at hF
                        rw [if_neg c_57] at hs
                        refine lv_aload_n hx hb dX8_doStrings_177 rfl (lv_at hl 2 rfl) ?_
                        refine gf_X8_52 (v := .int o_this_L105.2.2.1) hx hb hown ht hK hP 0 rfl rfl dX8_doStrings_178 ?_
                        refine lv_if_ne (tgt := 207) hx hb dX8_doStrings_181 (by decide) (fun c_58 => ?_) (fun c_58 => ?_)
                        · skip
                          rw [if_neg c_58] at hF
                          rw [if_neg c_58] at hs
                          refine lv_iinc (v := (x6 + (1 : Int32))) (lv' := [(6, .int (x6 + (1 : Int32))), (5, .int (p2 + (1 : Int32))), (0, .ref a_this), (1, .int p1), (2, .int p2), (3, .int p3), (4, .int p4)]) hx hb dX8_doStrings_207 hl (k := 0) rfl rfl (by decide) rfl (fun ls hl => ?_)
                          refine lv_goto (tgt := 105) hx hb dX8_doStrings_210 (by decide) ?_
                          exact ih o_this_L105 r_this_bytes_L105 (x6 + (1 : Int32)) _ _ _ (by first | exact q_up hm c_1 | exact q_up hm c_2 | exact q_up hm c_5 | exact q_up hm c_6 | exact q_up hm c_39 | exact q_up hm c_40 | exact q_up hm c_55 | exact q_up hm c_56 | exact q_up hm c_57 | exact q_up hm c_58)  hP hD hS (lv_sub hl [0, 1, 2, 3, 4, 5, 6] rfl) hF hs
                        · skip
                          rw [if_pos c_58] at hF
                          rw [if_pos c_58] at hs
                          refine lv_aload_n hx hb dX8_doStrings_184 rfl (lv_at hl 2 rfl) ?_
                          refine lv_aload_n hx hb dX8_doStrings_185 rfl (lv_at hl 2 rfl) ?_
                          refine gf_X8_7 (v := .ref a_this_bytes) hx hb hown ht hK hP 0 rfl rfl dX8_doStrings_186 ?_
                          refine lv_iload_n hx hb dX8_doStrings_189 rfl (lv_at hl 5 rfl) ?_
                          refine lv_iload hx hb dX8_doStrings_190 (lv_at hl 0 rfl) ?_
                          refine lv_iadd hx hb dX8_doStrings_192 ?_
                          obtain ⟨hi_59, hs⟩ := hs
                          refine va_iald hx hb hK hP 1 0 rfl rfl hi_59 dX8_doStrings_193 ?_
                          refine lv_aload_n hx hb dX8_doStrings_194 rfl (lv_at hl 2 rfl) ?_
                          refine gf_X8_7 (v := .ref a_this_bytes) hx hb hown ht hK hP 0 rfl rfl dX8_doStrings_195 ?_
                          refine lv_iload hx hb dX8_doStrings_198 (lv_at hl 6 rfl) ?_
                          refine lv_iload hx hb dX8_doStrings_200 (lv_at hl 0 rfl) ?_
                          refine lv_iadd hx hb dX8_doStrings_202 ?_
                          obtain ⟨hi_60, hs⟩ := hs
                          refine va_iald hx hb hK hP 1 0 rfl rfl hi_60 dX8_doStrings_203 ?_
                          refine q_Vv (rest := []) (c_X8_compared l D a_this a_this_bytes a_this_keys a_this_reg a_this_card a_this_filled a_this_taken a_this_line a_this_one a_this_two o_this_L105 (r_this_bytes_L105 (p3 + x6).toNatClampNeg) (r_this_bytes_L105 (p4 + x6).toNatClampNeg)) cv_X8_compared hx hb hml hown ht hN hK hA hP hD hS hl.1 (km_X8_131) ⟨Nat.le_of_ble_eq_true rfl, Nat.le_of_ble_eq_true rfl⟩ rfl rfl [0] (by decide) rfl [] rfl (fun _ => rfl) (ci := 8) rfl rfl rfl rfl rfl (Nat.le_of_ble_eq_true rfl) dX8_doStrings_204 ⟨Nat.zero_le _, Nat.zero_le _⟩ (fun w_61 H locs hw hP hD hS => ?_)
                          have hP : va_P D vwCl [(a_this, oX8 a_this_bytes a_this_keys a_this_reg a_this_card a_this_filled a_this_taken a_this_line a_this_one a_this_two w_61), (a_this_bytes, .inl (k_this_bytes, 2048, .inl r_this_bytes_L105)), (a_this_keys, .inl (k_this_keys, 8, .inl r_this_keys)), (a_this_one, .inl (k_this_one, 40, .inl r_this_one)), (a_this_two, .inl (k_this_two, 40, .inl r_this_two))] H := hP
                          have hD : va_D A [(a_this, oX8 a_this_bytes a_this_keys a_this_reg a_this_card a_this_filled a_this_taken a_this_line a_this_one a_this_two w_61), (a_this_bytes, .inl (k_this_bytes, 2048, .inl r_this_bytes_L105)), (a_this_keys, .inl (k_this_keys, 8, .inl r_this_keys)), (a_this_one, .inl (k_this_one, 40, .inl r_this_one)), (a_this_two, .inl (k_this_two, 40, .inl r_this_two))] := hD
                          rw [q_let_of hw] at hF
                          rw [q_let_of hw] at hs
                          refine lv_iinc (v := (x6 + (1 : Int32))) (lv' := [(6, .int (x6 + (1 : Int32))), (5, .int (p2 + (1 : Int32))), (0, .ref a_this), (1, .int p1), (2, .int p2), (3, .int p3), (4, .int p4)]) hx hb dX8_doStrings_207 hl (k := 0) rfl rfl (by decide) rfl (fun ls hl => ?_)
                          refine lv_goto (tgt := 105) hx hb dX8_doStrings_210 (by decide) ?_
                          exact ih w_61 r_this_bytes_L105 (x6 + (1 : Int32)) _ _ _ (by first | exact q_up hm c_1 | exact q_up hm c_2 | exact q_up hm c_5 | exact q_up hm c_6 | exact q_up hm c_39 | exact q_up hm c_40 | exact q_up hm c_55 | exact q_up hm c_56 | exact q_up hm c_57 | exact q_up hm c_58)  hP hD hS (lv_sub hl [0, 1, 2, 3, 4, 5, 6] rfl) hF hs
                      · skip
                        rw [if_pos c_57] at hF
                        rw [if_pos c_57] at hs
                        refine lv_aload_n hx hb dX8_doStrings_148 rfl (lv_at hl 2 rfl) ?_
                        refine gf_X8_7 (v := .ref a_this_bytes) hx hb hown ht hK hP 0 rfl rfl dX8_doStrings_149 ?_
                        refine lv_iload_n hx hb dX8_doStrings_152 rfl (lv_at hl 5 rfl) ?_
                        refine lv_iload hx hb dX8_doStrings_153 (lv_at hl 0 rfl) ?_
                        refine lv_iadd hx hb dX8_doStrings_155 ?_
                        refine lv_aload_n hx hb dX8_doStrings_156 rfl (lv_at hl 2 rfl) ?_
                        refine gf_X8_7 (v := .ref a_this_bytes) hx hb hown ht hK hP 0 rfl rfl dX8_doStrings_157 ?_
                        refine lv_iload hx hb dX8_doStrings_160 (lv_at hl 6 rfl) ?_
                        refine lv_aload_n hx hb dX8_doStrings_162 rfl (lv_at hl 2 rfl) ?_
                        refine gf_X8_7 (v := .ref a_this_bytes) hx hb hown ht hK hP 0 rfl rfl dX8_doStrings_163 ?_
                        refine lv_iload_n hx hb dX8_doStrings_166 rfl (lv_at hl 5 rfl) ?_
                        refine lv_iload hx hb dX8_doStrings_167 (lv_at hl 0 rfl) ?_
                        refine lv_iadd hx hb dX8_doStrings_169 ?_
                        obtain ⟨hi_62, hs⟩ := hs
                        refine va_iald hx hb hK hP 1 0 rfl rfl hi_62 dX8_doStrings_170 ?_
                        refine lv_iadd hx hb dX8_doStrings_171 ?_
                        obtain ⟨hi_63, hs⟩ := hs
                        refine va_iald hx hb hK hP 1 0 rfl rfl hi_63 dX8_doStrings_172 ?_
                        obtain ⟨hi_64, hs⟩ := hs
                        refine va_iast hx hb hK hP hD hS 1 0 rfl rfl hi_64 dX8_doStrings_173 (fun H locs hP hD hS => ?_)
                        have hP : va_P D vwCl [(a_this, oX8 a_this_bytes a_this_keys a_this_reg a_this_card a_this_filled a_this_taken a_this_line a_this_one a_this_two o_this_L105), (a_this_bytes, .inl (k_this_bytes, 2048, .inl (upd r_this_bytes_L105 (p3 + x6).toNatClampNeg (r_this_bytes_L105 (p4 + (r_this_bytes_L105 (p3 + x6).toNatClampNeg)).toNatClampNeg)))), (a_this_keys, .inl (k_this_keys, 8, .inl r_this_keys)), (a_this_one, .inl (k_this_one, 40, .inl r_this_one)), (a_this_two, .inl (k_this_two, 40, .inl r_this_two))] H := hP
                        have hD : va_D A [(a_this, oX8 a_this_bytes a_this_keys a_this_reg a_this_card a_this_filled a_this_taken a_this_line a_this_one a_this_two o_this_L105), (a_this_bytes, .inl (k_this_bytes, 2048, .inl (upd r_this_bytes_L105 (p3 + x6).toNatClampNeg (r_this_bytes_L105 (p4 + (r_this_bytes_L105 (p3 + x6).toNatClampNeg)).toNatClampNeg)))), (a_this_keys, .inl (k_this_keys, 8, .inl r_this_keys)), (a_this_one, .inl (k_this_one, 40, .inl r_this_one)), (a_this_two, .inl (k_this_two, 40, .inl r_this_two))] := hD
                        refine lv_goto (tgt := 207) hx hb dX8_doStrings_174 (by decide) ?_
                        refine lv_iinc (v := (x6 + (1 : Int32))) (lv' := [(6, .int (x6 + (1 : Int32))), (5, .int (p2 + (1 : Int32))), (0, .ref a_this), (1, .int p1), (2, .int p2), (3, .int p3), (4, .int p4)]) hx hb dX8_doStrings_207 hl (k := 0) rfl rfl (by decide) rfl (fun ls hl => ?_)
                        refine lv_goto (tgt := 105) hx hb dX8_doStrings_210 (by decide) ?_
                        exact ih o_this_L105 (upd r_this_bytes_L105 (p3 + x6).toNatClampNeg (r_this_bytes_L105 (p4 + (r_this_bytes_L105 (p3 + x6).toNatClampNeg)).toNatClampNeg)) (x6 + (1 : Int32)) _ _ _ (by first | exact q_up hm c_1 | exact q_up hm c_2 | exact q_up hm c_5 | exact q_up hm c_6 | exact q_up hm c_39 | exact q_up hm c_40 | exact q_up hm c_55 | exact q_up hm c_56 | exact q_up hm c_57)  hP hD hS (lv_sub hl [0, 1, 2, 3, 4, 5, 6] rfl) hF hs
                    · skip
                      rw [if_pos c_56] at hF
                      rw [if_pos c_56] at hs
                      refine lv_aload_n hx hb dX8_doStrings_119 rfl (lv_at hl 2 rfl) ?_
                      refine gf_X8_7 (v := .ref a_this_bytes) hx hb hown ht hK hP 0 rfl rfl dX8_doStrings_120 ?_
                      refine lv_iload_n hx hb dX8_doStrings_123 rfl (lv_at hl 5 rfl) ?_
                      refine lv_iload hx hb dX8_doStrings_124 (lv_at hl 0 rfl) ?_
                      refine lv_iadd hx hb dX8_doStrings_126 ?_
                      refine lv_aload_n hx hb dX8_doStrings_127 rfl (lv_at hl 2 rfl) ?_
                      refine gf_X8_7 (v := .ref a_this_bytes) hx hb hown ht hK hP 0 rfl rfl dX8_doStrings_128 ?_
                      refine lv_iload hx hb dX8_doStrings_131 (lv_at hl 6 rfl) ?_
                      refine lv_iload hx hb dX8_doStrings_133 (lv_at hl 0 rfl) ?_
                      refine lv_iadd hx hb dX8_doStrings_135 ?_
                      obtain ⟨hi_65, hs⟩ := hs
                      refine va_iald hx hb hK hP 1 0 rfl rfl hi_65 dX8_doStrings_136 ?_
                      obtain ⟨hi_66, hs⟩ := hs
                      refine va_iast hx hb hK hP hD hS 1 0 rfl rfl hi_66 dX8_doStrings_137 (fun H locs hP hD hS => ?_)
                      have hP : va_P D vwCl [(a_this, oX8 a_this_bytes a_this_keys a_this_reg a_this_card a_this_filled a_this_taken a_this_line a_this_one a_this_two o_this_L105), (a_this_bytes, .inl (k_this_bytes, 2048, .inl (upd r_this_bytes_L105 (p3 + x6).toNatClampNeg (r_this_bytes_L105 (p4 + x6).toNatClampNeg)))), (a_this_keys, .inl (k_this_keys, 8, .inl r_this_keys)), (a_this_one, .inl (k_this_one, 40, .inl r_this_one)), (a_this_two, .inl (k_this_two, 40, .inl r_this_two))] H := hP
                      have hD : va_D A [(a_this, oX8 a_this_bytes a_this_keys a_this_reg a_this_card a_this_filled a_this_taken a_this_line a_this_one a_this_two o_this_L105), (a_this_bytes, .inl (k_this_bytes, 2048, .inl (upd r_this_bytes_L105 (p3 + x6).toNatClampNeg (r_this_bytes_L105 (p4 + x6).toNatClampNeg)))), (a_this_keys, .inl (k_this_keys, 8, .inl r_this_keys)), (a_this_one, .inl (k_this_one, 40, .inl r_this_one)), (a_this_two, .inl (k_this_two, 40, .inl r_this_two))] := hD
                      refine lv_goto (tgt := 207) hx hb dX8_doStrings_138 (by decide) ?_
                      refine lv_iinc (v := (x6 + (1 : Int32))) (lv' := [(6, .int (x6 + (1 : Int32))), (5, .int (p2 + (1 : Int32))), (0, .ref a_this), (1, .int p1), (2, .int p2), (3, .int p3), (4, .int p4)]) hx hb dX8_doStrings_207 hl (k := 0) rfl rfl (by decide) rfl (fun ls hl => ?_)
                      refine lv_goto (tgt := 105) hx hb dX8_doStrings_210 (by decide) ?_
                      exact ih o_this_L105 (upd r_this_bytes_L105 (p3 + x6).toNatClampNeg (r_this_bytes_L105 (p4 + x6).toNatClampNeg)) (x6 + (1 : Int32)) _ _ _ (by first | exact q_up hm c_1 | exact q_up hm c_2 | exact q_up hm c_5 | exact q_up hm c_6 | exact q_up hm c_39 | exact q_up hm c_40 | exact q_up hm c_55 | exact q_up hm c_56)  hP hD hS (lv_sub hl [0, 1, 2, 3, 4, 5, 6] rfl) hF hs
              exact L105 ((((p2 + (1 : Int32)) : Int32).toInt - (0 : Int32).toInt).toNat + 1) (w_38.2.1, w_38.2.2.1, 0, w_38.2.2.2.2.1, w_38.2.2.2.2.2.1, w_38.2.2.2.2.2.2.1, w_38.2.2.2.2.2.2.2.1, w_38.2.2.2.2.2.2.2.2.1, w_38.2.2.2.2.2.2.2.2.2.1, w_38.2.2.2.2.2.2.2.2.2.2.1, w_38.2.2.2.2.2.2.2.2.2.2.2.1, w_38.2.2.2.2.2.2.2.2.2.2.2.2.1, w_38.2.2.2.2.2.2.2.2.2.2.2.2.2.1, w_38.2.2.2.2.2.2.2.2.2.2.2.2.2.2.1, w_38.2.2.2.2.2.2.2.2.2.2.2.2.2.2.2.1, w_38.2.2.2.2.2.2.2.2.2.2.2.2.2.2.2.2.1, w_38.2.2.2.2.2.2.2.2.2.2.2.2.2.2.2.2.2.1, w_38.2.2.2.2.2.2.2.2.2.2.2.2.2.2.2.2.2.2.1, w_38.2.2.2.2.2.2.2.2.2.2.2.2.2.2.2.2.2.2.2.1, w_38.2.2.2.2.2.2.2.2.2.2.2.2.2.2.2.2.2.2.2.2.1, w_38.2.2.2.2.2.2.2.2.2.2.2.2.2.2.2.2.2.2.2.2.2.1, w_38.2.2.2.2.2.2.2.2.2.2.2.2.2.2.2.2.2.2.2.2.2.2.1, w_38.2.2.2.2.2.2.2.2.2.2.2.2.2.2.2.2.2.2.2.2.2.2.2.1, w_38.2.2.2.2.2.2.2.2.2.2.2.2.2.2.2.2.2.2.2.2.2.2.2.2.1, w_38.2.2.2.2.2.2.2.2.2.2.2.2.2.2.2.2.2.2.2.2.2.2.2.2.2) r_this_bytes 0 _ _ _ (Nat.lt_succ_self _)  hP hD hS (lv_sub hl [0, 1, 2, 3, 4, 5, 6] rfl) hF hs
          · have c_39 : ¬ w_38.1 = true := by rw [(bI_eq0 _).mp c_39]; decide
            rw [if_neg c_39] at hF
            rw [if_neg c_39] at hs
            exact hQ (w_38.2, r_this_bytes, r_this_one, r_this_two) _ _ _ _ dX8_doStrings_82 hF.symm hP hD hS
    · skip
      rw [if_neg c_2] at hF
      rw [if_neg c_2] at hs
      refine lv_iconst (v := 1) hx hb dX8_doStrings_45 (by decide) ?_
      refine lv_goto (tgt := 50) hx hb dX8_doStrings_46 (by decide) ?_
      obtain ⟨hi_67, hs⟩ := hs
      refine q_Vi (rest := []) (c_X8_good l D a_this a_this_keys a_this_bytes a_this_reg a_this_card a_this_filled a_this_taken a_this_line a_this_one a_this_two k_this_keys o_this r_this_keys p3 (p2 + (1 : Int32)) 1 true hi_67) cv_X8_good hx hb hml hown ht hN hK hA hP hD hS hl.1 (km_X8_158) ⟨Nat.le_of_ble_eq_true rfl, Nat.le_of_ble_eq_true rfl⟩ rfl rfl [0, 2] (by decide) rfl [1] rfl (fun _ => rfl) (ci := 8) rfl rfl rfl rfl rfl (Nat.le_of_ble_eq_true rfl) dX8_doStrings_50 ⟨Nat.zero_le _, Nat.zero_le _⟩ (fun r w_68 H locs hw hP hD hS => ?_)
      obtain ⟨hw, hr⟩ := hw
      subst hr
      have hP : va_P D vwCl [(a_this, oX8 a_this_bytes a_this_keys a_this_reg a_this_card a_this_filled a_this_taken a_this_line a_this_one a_this_two w_68.2), (a_this_bytes, .inl (k_this_bytes, 2048, .inl r_this_bytes)), (a_this_keys, .inl (k_this_keys, 8, .inl r_this_keys)), (a_this_one, .inl (k_this_one, 40, .inl r_this_one)), (a_this_two, .inl (k_this_two, 40, .inl r_this_two))] H := hP
      have hD : va_D A [(a_this, oX8 a_this_bytes a_this_keys a_this_reg a_this_card a_this_filled a_this_taken a_this_line a_this_one a_this_two w_68.2), (a_this_bytes, .inl (k_this_bytes, 2048, .inl r_this_bytes)), (a_this_keys, .inl (k_this_keys, 8, .inl r_this_keys)), (a_this_one, .inl (k_this_one, 40, .inl r_this_one)), (a_this_two, .inl (k_this_two, 40, .inl r_this_two))] := hD
      rw [q_let_of hw] at hF
      rw [q_let_of hw] at hs
      refine lv_if_eq (tgt := 82) hx hb dX8_doStrings_53 (by decide) (fun c_69 => ?_) (fun c_69 => ?_)
      · have c_69 : ¬ w_68.1 = true := by rw [(bI_eq0 _).mp c_69]; decide
        rw [if_neg c_69] at hF
        rw [if_neg c_69] at hs
        exact hQ (w_68.2, r_this_bytes, r_this_one, r_this_two) _ _ _ _ dX8_doStrings_82 hF.symm hP hD hS
      · have c_69 := (bI_ne0 _).mp c_69
        rw [if_pos c_69] at hF
        rw [if_pos c_69] at hs
        refine lv_aload_n hx hb dX8_doStrings_56 rfl (lv_at hl 1 rfl) ?_
        refine lv_iload hx hb dX8_doStrings_57 (lv_at hl 5 rfl) ?_
        refine lv_iload_n hx hb dX8_doStrings_59 rfl (lv_at hl 2 rfl) ?_
        refine lv_sipush (v := 220) hx hb dX8_doStrings_60 (by decide) ?_
        refine lv_icmp_ne (tgt := 72) hx hb dX8_doStrings_63 (by decide) (fun c_70 => ?_) (fun c_70 => ?_)
        · skip
          rw [if_neg c_70] at hF
          rw [if_neg c_70] at hs
          refine lv_iload hx hb dX8_doStrings_72 (lv_at hl 0 rfl) ?_
          refine lv_iconst (v := 1) hx hb dX8_doStrings_74 (by decide) ?_
          refine lv_iconst (v := 0) hx hb dX8_doStrings_75 (by decide) ?_
          obtain ⟨hi_71, hs⟩ := hs
          refine q_Vi (rest := []) (c_X8_good l D a_this a_this_keys a_this_bytes a_this_reg a_this_card a_this_filled a_this_taken a_this_line a_this_one a_this_two k_this_keys w_68.2 r_this_keys p4 (p2 + (1 : Int32)) 1 false hi_71) cv_X8_good hx hb hml hown ht hN hK hA hP hD hS hl.1 (km_X8_158) ⟨Nat.le_of_ble_eq_true rfl, Nat.le_of_ble_eq_true rfl⟩ rfl rfl [0, 2] (by decide) rfl [1] rfl (fun _ => rfl) (ci := 8) rfl rfl rfl rfl rfl (Nat.le_of_ble_eq_true rfl) dX8_doStrings_76 ⟨Nat.zero_le _, Nat.zero_le _⟩ (fun r w_72 H locs hw hP hD hS => ?_)
          obtain ⟨hw, hr⟩ := hw
          subst hr
          have hP : va_P D vwCl [(a_this, oX8 a_this_bytes a_this_keys a_this_reg a_this_card a_this_filled a_this_taken a_this_line a_this_one a_this_two w_72.2), (a_this_bytes, .inl (k_this_bytes, 2048, .inl r_this_bytes)), (a_this_keys, .inl (k_this_keys, 8, .inl r_this_keys)), (a_this_one, .inl (k_this_one, 40, .inl r_this_one)), (a_this_two, .inl (k_this_two, 40, .inl r_this_two))] H := hP
          have hD : va_D A [(a_this, oX8 a_this_bytes a_this_keys a_this_reg a_this_card a_this_filled a_this_taken a_this_line a_this_one a_this_two w_72.2), (a_this_bytes, .inl (k_this_bytes, 2048, .inl r_this_bytes)), (a_this_keys, .inl (k_this_keys, 8, .inl r_this_keys)), (a_this_one, .inl (k_this_one, 40, .inl r_this_one)), (a_this_two, .inl (k_this_two, 40, .inl r_this_two))] := hD
          rw [q_let_of hw] at hF
          rw [q_let_of hw] at hs
          refine lv_if_ne (tgt := 83) hx hb dX8_doStrings_79 (by decide) (fun c_73 => ?_) (fun c_73 => ?_)
          · have c_73 := (bI_ne0 _).mp c_73
            rw [if_pos c_73] at hF
            rw [if_pos c_73] at hs
            refine lv_aload_n hx hb dX8_doStrings_83 rfl (lv_at hl 1 rfl) ?_
            refine lv_iload_n hx hb dX8_doStrings_84 rfl (lv_at hl 2 rfl) ?_
            refine lv_sipush (v := 213) hx hb dX8_doStrings_85 (by decide) ?_
            refine lv_icmp_ne (tgt := 95) hx hb dX8_doStrings_88 (by decide) (fun c_74 => ?_) (fun c_74 => ?_)
            · skip
              rw [if_neg c_74] at hF
              rw [if_neg c_74] at hs
              refine lv_aload_n hx hb dX8_doStrings_95 rfl (lv_at hl 1 rfl) ?_
              refine gf_X8_52 (v := .int w_72.2.2.2.1) hx hb hown ht hK hP 0 rfl rfl dX8_doStrings_96 ?_
              refine pf_X8_52 (x := w_72.2.2.2.1) hx hb hown ht hK hP hD hS 0 rfl (Nat.le_of_ble_eq_true rfl) dX8_doStrings_99 (fun H locs hP hD hS => ?_)
              have hP : va_P D vwCl [(a_this, oX8 a_this_bytes a_this_keys a_this_reg a_this_card a_this_filled a_this_taken a_this_line a_this_one a_this_two w_72.2), (a_this_bytes, .inl (k_this_bytes, 2048, .inl r_this_bytes)), (a_this_keys, .inl (k_this_keys, 8, .inl r_this_keys)), (a_this_one, .inl (k_this_one, 40, .inl r_this_one)), (a_this_two, .inl (k_this_two, 40, .inl r_this_two))] H := hP
              have hD : va_D A [(a_this, oX8 a_this_bytes a_this_keys a_this_reg a_this_card a_this_filled a_this_taken a_this_line a_this_one a_this_two w_72.2), (a_this_bytes, .inl (k_this_bytes, 2048, .inl r_this_bytes)), (a_this_keys, .inl (k_this_keys, 8, .inl r_this_keys)), (a_this_one, .inl (k_this_one, 40, .inl r_this_one)), (a_this_two, .inl (k_this_two, 40, .inl r_this_two))] := hD
              refine lv_iconst (v := 0) hx hb dX8_doStrings_102 (by decide) ?_
              refine lv_istore (lv' := [(6, .int 0), (5, .int (p2 + (1 : Int32))), (0, .ref a_this), (1, .int p1), (2, .int p2), (3, .int p3), (4, .int p4)]) hx hb dX8_doStrings_103 hl (by decide) rfl (fun ls hl => ?_)
              have L105 : ∀ (fuel : Nat) (o_this_L105 : Int32 × Int32 × Int32 × Int32 × Bool × Bool × Int32 × Int32 × Int32 × Int32 × Bool × Bool × Bool × Int32 × Int32 × Int32 × Int32 × Int32 × Int32 × Int32 × Int32 × Int32 × Int32 × Int32 × Int32) (r_this_bytes_L105 : Nat → Int32) (x6 : Int32) (H : Heap) (locs : List Loc) (ls : Array Slot), (((p2 + (1 : Int32)) : Int32).toInt - (x6 : Int32).toInt).toNat < fuel → va_P D vwCl [(a_this, oX8 a_this_bytes a_this_keys a_this_reg a_this_card a_this_filled a_this_taken a_this_line a_this_one a_this_two o_this_L105), (a_this_bytes, .inl (k_this_bytes, 2048, .inl r_this_bytes_L105)), (a_this_keys, .inl (k_this_keys, 8, .inl r_this_keys)), (a_this_one, .inl (k_this_one, 40, .inl r_this_one)), (a_this_two, .inl (k_this_two, 40, .inl r_this_two))] H → va_D A [(a_this, oX8 a_this_bytes a_this_keys a_this_reg a_this_card a_this_filled a_this_taken a_this_line a_this_one a_this_two o_this_L105), (a_this_bytes, .inl (k_this_bytes, 2048, .inl r_this_bytes_L105)), (a_this_keys, .inl (k_this_keys, 8, .inl r_this_keys)), (a_this_one, .inl (k_this_one, 40, .inl r_this_one)), (a_this_two, .inl (k_this_two, 40, .inl r_this_two))] → va_S A s.heap H locs → lv_has ls 7 [(6, .int x6), (5, .int (p2 + (1 : Int32))), (0, .ref a_this), (1, .int p1), (2, .int p2), (3, .int p3), (4, .int p4)] → f_X8_doStrings_L105bbbb r_this_one r_this_two p1 p2 p3 p4 fuel o_this_L105 r_this_bytes_L105 x6 = F → s_X8_doStrings_L105bbbb p1 p2 p3 p4 fuel o_this_L105 r_this_bytes_L105 x6 → W p l e ({ frames := 3, cells := 0, slots := 0, locals := 78 } : Room) s m ([.ref a_this, .int p1, .int p2, .int p3, .int p4] : List Value).toArray below meth c H locs 0 0 Q (F0 m 105 ls []) := by
                intro fuel
                induction fuel with
                | zero => intro o_this_L105 r_this_bytes_L105 x6 H locs ls hm; exact absurd hm (Nat.not_lt_zero _)
                | succ fuel ih =>
                  intro o_this_L105 r_this_bytes_L105 x6 H locs ls hm  hP hD hS hl hF hs
                  rw [f_X8_doStrings_L105bbbb] at hF
                  rw [s_X8_doStrings_L105bbbb] at hs
                  skip
                  refine lv_iload hx hb dX8_doStrings_105 (lv_at hl 0 rfl) ?_
                  refine lv_iload hx hb dX8_doStrings_107 (lv_at hl 1 rfl) ?_
                  refine lv_icmp_ge (tgt := 213) hx hb dX8_doStrings_109 (by decide) (fun c_76 => ?_) (fun c_76 => ?_)
                  · skip
                    rw [if_pos c_76] at hF
                    rw [if_pos c_76] at hs
                    exact hQ (o_this_L105, r_this_bytes_L105, r_this_one, r_this_two) _ _ _ _ dX8_doStrings_213 hF.symm hP hD hS
                  · skip
                    rw [if_neg c_76] at hF
                    rw [if_neg c_76] at hs
                    refine lv_iload_n hx hb dX8_doStrings_112 rfl (lv_at hl 3 rfl) ?_
                    refine lv_sipush (v := 210) hx hb dX8_doStrings_113 (by decide) ?_
                    refine lv_icmp_ne (tgt := 141) hx hb dX8_doStrings_116 (by decide) (fun c_77 => ?_) (fun c_77 => ?_)
                    · skip
                      rw [if_neg c_77] at hF
                      rw [if_neg c_77] at hs
                      refine lv_iload_n hx hb dX8_doStrings_141 rfl (lv_at hl 3 rfl) ?_
                      refine lv_sipush (v := 220) hx hb dX8_doStrings_142 (by decide) ?_
                      refine lv_icmp_ne (tgt := 177) hx hb dX8_doStrings_145 (by decide) (fun c_78 => ?_) (fun c_78 => ?_)
                      · skip
                        rw [if_neg c_78] at hF
                        rw [if_neg c_78] at hs
                        refine lv_aload_n hx hb dX8_doStrings_177 rfl (lv_at hl 2 rfl) ?_
                        refine gf_X8_52 (v := .int o_this_L105.2.2.1) hx hb hown ht hK hP 0 rfl rfl dX8_doStrings_178 ?_
                        refine lv_if_ne (tgt := 207) hx hb dX8_doStrings_181 (by decide) (fun c_79 => ?_) (fun c_79 => ?_)
                        · skip
                          rw [if_neg c_79] at hF
                          rw [if_neg c_79] at hs
                          refine lv_iinc (v := (x6 + (1 : Int32))) (lv' := [(6, .int (x6 + (1 : Int32))), (5, .int (p2 + (1 : Int32))), (0, .ref a_this), (1, .int p1), (2, .int p2), (3, .int p3), (4, .int p4)]) hx hb dX8_doStrings_207 hl (k := 0) rfl rfl (by decide) rfl (fun ls hl => ?_)
                          refine lv_goto (tgt := 105) hx hb dX8_doStrings_210 (by decide) ?_
                          exact ih o_this_L105 r_this_bytes_L105 (x6 + (1 : Int32)) _ _ _ (by first | exact q_up hm c_1 | exact q_up hm c_2 | exact q_up hm c_69 | exact q_up hm c_70 | exact q_up hm c_73 | exact q_up hm c_74 | exact q_up hm c_76 | exact q_up hm c_77 | exact q_up hm c_78 | exact q_up hm c_79)  hP hD hS (lv_sub hl [0, 1, 2, 3, 4, 5, 6] rfl) hF hs
                        · skip
                          rw [if_pos c_79] at hF
                          rw [if_pos c_79] at hs
                          refine lv_aload_n hx hb dX8_doStrings_184 rfl (lv_at hl 2 rfl) ?_
                          refine lv_aload_n hx hb dX8_doStrings_185 rfl (lv_at hl 2 rfl) ?_
                          refine gf_X8_7 (v := .ref a_this_bytes) hx hb hown ht hK hP 0 rfl rfl dX8_doStrings_186 ?_
                          refine lv_iload_n hx hb dX8_doStrings_189 rfl (lv_at hl 5 rfl) ?_
                          refine lv_iload hx hb dX8_doStrings_190 (lv_at hl 0 rfl) ?_
                          refine lv_iadd hx hb dX8_doStrings_192 ?_
                          obtain ⟨hi_80, hs⟩ := hs
                          refine va_iald hx hb hK hP 1 0 rfl rfl hi_80 dX8_doStrings_193 ?_
                          refine lv_aload_n hx hb dX8_doStrings_194 rfl (lv_at hl 2 rfl) ?_
                          refine gf_X8_7 (v := .ref a_this_bytes) hx hb hown ht hK hP 0 rfl rfl dX8_doStrings_195 ?_
                          refine lv_iload hx hb dX8_doStrings_198 (lv_at hl 6 rfl) ?_
                          refine lv_iload hx hb dX8_doStrings_200 (lv_at hl 0 rfl) ?_
                          refine lv_iadd hx hb dX8_doStrings_202 ?_
                          obtain ⟨hi_81, hs⟩ := hs
                          refine va_iald hx hb hK hP 1 0 rfl rfl hi_81 dX8_doStrings_203 ?_
                          refine q_Vv (rest := []) (c_X8_compared l D a_this a_this_bytes a_this_keys a_this_reg a_this_card a_this_filled a_this_taken a_this_line a_this_one a_this_two o_this_L105 (r_this_bytes_L105 (p3 + x6).toNatClampNeg) (r_this_bytes_L105 (p4 + x6).toNatClampNeg)) cv_X8_compared hx hb hml hown ht hN hK hA hP hD hS hl.1 (km_X8_131) ⟨Nat.le_of_ble_eq_true rfl, Nat.le_of_ble_eq_true rfl⟩ rfl rfl [0] (by decide) rfl [] rfl (fun _ => rfl) (ci := 8) rfl rfl rfl rfl rfl (Nat.le_of_ble_eq_true rfl) dX8_doStrings_204 ⟨Nat.zero_le _, Nat.zero_le _⟩ (fun w_82 H locs hw hP hD hS => ?_)
                          have hP : va_P D vwCl [(a_this, oX8 a_this_bytes a_this_keys a_this_reg a_this_card a_this_filled a_this_taken a_this_line a_this_one a_this_two w_82), (a_this_bytes, .inl (k_this_bytes, 2048, .inl r_this_bytes_L105)), (a_this_keys, .inl (k_this_keys, 8, .inl r_this_keys)), (a_this_one, .inl (k_this_one, 40, .inl r_this_one)), (a_this_two, .inl (k_this_two, 40, .inl r_this_two))] H := hP
                          have hD : va_D A [(a_this, oX8 a_this_bytes a_this_keys a_this_reg a_this_card a_this_filled a_this_taken a_this_line a_this_one a_this_two w_82), (a_this_bytes, .inl (k_this_bytes, 2048, .inl r_this_bytes_L105)), (a_this_keys, .inl (k_this_keys, 8, .inl r_this_keys)), (a_this_one, .inl (k_this_one, 40, .inl r_this_one)), (a_this_two, .inl (k_this_two, 40, .inl r_this_two))] := hD
                          rw [q_let_of hw] at hF
                          rw [q_let_of hw] at hs
                          refine lv_iinc (v := (x6 + (1 : Int32))) (lv' := [(6, .int (x6 + (1 : Int32))), (5, .int (p2 + (1 : Int32))), (0, .ref a_this), (1, .int p1), (2, .int p2), (3, .int p3), (4, .int p4)]) hx hb dX8_doStrings_207 hl (k := 0) rfl rfl (by decide) rfl (fun ls hl => ?_)
                          refine lv_goto (tgt := 105) hx hb dX8_doStrings_210 (by decide) ?_
                          exact ih w_82 r_this_bytes_L105 (x6 + (1 : Int32)) _ _ _ (by first | exact q_up hm c_1 | exact q_up hm c_2 | exact q_up hm c_69 | exact q_up hm c_70 | exact q_up hm c_73 | exact q_up hm c_74 | exact q_up hm c_76 | exact q_up hm c_77 | exact q_up hm c_78 | exact q_up hm c_79)  hP hD hS (lv_sub hl [0, 1, 2, 3, 4, 5, 6] rfl) hF hs
                      · skip
                        rw [if_pos c_78] at hF
                        rw [if_pos c_78] at hs
                        refine lv_aload_n hx hb dX8_doStrings_148 rfl (lv_at hl 2 rfl) ?_
                        refine gf_X8_7 (v := .ref a_this_bytes) hx hb hown ht hK hP 0 rfl rfl dX8_doStrings_149 ?_
                        refine lv_iload_n hx hb dX8_doStrings_152 rfl (lv_at hl 5 rfl) ?_
                        refine lv_iload hx hb dX8_doStrings_153 (lv_at hl 0 rfl) ?_
                        refine lv_iadd hx hb dX8_doStrings_155 ?_
                        refine lv_aload_n hx hb dX8_doStrings_156 rfl (lv_at hl 2 rfl) ?_
                        refine gf_X8_7 (v := .ref a_this_bytes) hx hb hown ht hK hP 0 rfl rfl dX8_doStrings_157 ?_
                        refine lv_iload hx hb dX8_doStrings_160 (lv_at hl 6 rfl) ?_
                        refine lv_aload_n hx hb dX8_doStrings_162 rfl (lv_at hl 2 rfl) ?_
                        refine gf_X8_7 (v := .ref a_this_bytes) hx hb hown ht hK hP 0 rfl rfl dX8_doStrings_163 ?_
                        refine lv_iload_n hx hb dX8_doStrings_166 rfl (lv_at hl 5 rfl) ?_
                        refine lv_iload hx hb dX8_doStrings_167 (lv_at hl 0 rfl) ?_
                        refine lv_iadd hx hb dX8_doStrings_169 ?_
                        obtain ⟨hi_83, hs⟩ := hs
                        refine va_iald hx hb hK hP 1 0 rfl rfl hi_83 dX8_doStrings_170 ?_
                        refine lv_iadd hx hb dX8_doStrings_171 ?_
                        obtain ⟨hi_84, hs⟩ := hs
                        refine va_iald hx hb hK hP 1 0 rfl rfl hi_84 dX8_doStrings_172 ?_
                        obtain ⟨hi_85, hs⟩ := hs
                        refine va_iast hx hb hK hP hD hS 1 0 rfl rfl hi_85 dX8_doStrings_173 (fun H locs hP hD hS => ?_)
                        have hP : va_P D vwCl [(a_this, oX8 a_this_bytes a_this_keys a_this_reg a_this_card a_this_filled a_this_taken a_this_line a_this_one a_this_two o_this_L105), (a_this_bytes, .inl (k_this_bytes, 2048, .inl (upd r_this_bytes_L105 (p3 + x6).toNatClampNeg (r_this_bytes_L105 (p4 + (r_this_bytes_L105 (p3 + x6).toNatClampNeg)).toNatClampNeg)))), (a_this_keys, .inl (k_this_keys, 8, .inl r_this_keys)), (a_this_one, .inl (k_this_one, 40, .inl r_this_one)), (a_this_two, .inl (k_this_two, 40, .inl r_this_two))] H := hP
                        have hD : va_D A [(a_this, oX8 a_this_bytes a_this_keys a_this_reg a_this_card a_this_filled a_this_taken a_this_line a_this_one a_this_two o_this_L105), (a_this_bytes, .inl (k_this_bytes, 2048, .inl (upd r_this_bytes_L105 (p3 + x6).toNatClampNeg (r_this_bytes_L105 (p4 + (r_this_bytes_L105 (p3 + x6).toNatClampNeg)).toNatClampNeg)))), (a_this_keys, .inl (k_this_keys, 8, .inl r_this_keys)), (a_this_one, .inl (k_this_one, 40, .inl r_this_one)), (a_this_two, .inl (k_this_two, 40, .inl r_this_two))] := hD
                        refine lv_goto (tgt := 207) hx hb dX8_doStrings_174 (by decide) ?_
                        refine lv_iinc (v := (x6 + (1 : Int32))) (lv' := [(6, .int (x6 + (1 : Int32))), (5, .int (p2 + (1 : Int32))), (0, .ref a_this), (1, .int p1), (2, .int p2), (3, .int p3), (4, .int p4)]) hx hb dX8_doStrings_207 hl (k := 0) rfl rfl (by decide) rfl (fun ls hl => ?_)
                        refine lv_goto (tgt := 105) hx hb dX8_doStrings_210 (by decide) ?_
                        exact ih o_this_L105 (upd r_this_bytes_L105 (p3 + x6).toNatClampNeg (r_this_bytes_L105 (p4 + (r_this_bytes_L105 (p3 + x6).toNatClampNeg)).toNatClampNeg)) (x6 + (1 : Int32)) _ _ _ (by first | exact q_up hm c_1 | exact q_up hm c_2 | exact q_up hm c_69 | exact q_up hm c_70 | exact q_up hm c_73 | exact q_up hm c_74 | exact q_up hm c_76 | exact q_up hm c_77 | exact q_up hm c_78)  hP hD hS (lv_sub hl [0, 1, 2, 3, 4, 5, 6] rfl) hF hs
                    · skip
                      rw [if_pos c_77] at hF
                      rw [if_pos c_77] at hs
                      refine lv_aload_n hx hb dX8_doStrings_119 rfl (lv_at hl 2 rfl) ?_
                      refine gf_X8_7 (v := .ref a_this_bytes) hx hb hown ht hK hP 0 rfl rfl dX8_doStrings_120 ?_
                      refine lv_iload_n hx hb dX8_doStrings_123 rfl (lv_at hl 5 rfl) ?_
                      refine lv_iload hx hb dX8_doStrings_124 (lv_at hl 0 rfl) ?_
                      refine lv_iadd hx hb dX8_doStrings_126 ?_
                      refine lv_aload_n hx hb dX8_doStrings_127 rfl (lv_at hl 2 rfl) ?_
                      refine gf_X8_7 (v := .ref a_this_bytes) hx hb hown ht hK hP 0 rfl rfl dX8_doStrings_128 ?_
                      refine lv_iload hx hb dX8_doStrings_131 (lv_at hl 6 rfl) ?_
                      refine lv_iload hx hb dX8_doStrings_133 (lv_at hl 0 rfl) ?_
                      refine lv_iadd hx hb dX8_doStrings_135 ?_
                      obtain ⟨hi_86, hs⟩ := hs
                      refine va_iald hx hb hK hP 1 0 rfl rfl hi_86 dX8_doStrings_136 ?_
                      obtain ⟨hi_87, hs⟩ := hs
                      refine va_iast hx hb hK hP hD hS 1 0 rfl rfl hi_87 dX8_doStrings_137 (fun H locs hP hD hS => ?_)
                      have hP : va_P D vwCl [(a_this, oX8 a_this_bytes a_this_keys a_this_reg a_this_card a_this_filled a_this_taken a_this_line a_this_one a_this_two o_this_L105), (a_this_bytes, .inl (k_this_bytes, 2048, .inl (upd r_this_bytes_L105 (p3 + x6).toNatClampNeg (r_this_bytes_L105 (p4 + x6).toNatClampNeg)))), (a_this_keys, .inl (k_this_keys, 8, .inl r_this_keys)), (a_this_one, .inl (k_this_one, 40, .inl r_this_one)), (a_this_two, .inl (k_this_two, 40, .inl r_this_two))] H := hP
                      have hD : va_D A [(a_this, oX8 a_this_bytes a_this_keys a_this_reg a_this_card a_this_filled a_this_taken a_this_line a_this_one a_this_two o_this_L105), (a_this_bytes, .inl (k_this_bytes, 2048, .inl (upd r_this_bytes_L105 (p3 + x6).toNatClampNeg (r_this_bytes_L105 (p4 + x6).toNatClampNeg)))), (a_this_keys, .inl (k_this_keys, 8, .inl r_this_keys)), (a_this_one, .inl (k_this_one, 40, .inl r_this_one)), (a_this_two, .inl (k_this_two, 40, .inl r_this_two))] := hD
                      refine lv_goto (tgt := 207) hx hb dX8_doStrings_138 (by decide) ?_
                      refine lv_iinc (v := (x6 + (1 : Int32))) (lv' := [(6, .int (x6 + (1 : Int32))), (5, .int (p2 + (1 : Int32))), (0, .ref a_this), (1, .int p1), (2, .int p2), (3, .int p3), (4, .int p4)]) hx hb dX8_doStrings_207 hl (k := 0) rfl rfl (by decide) rfl (fun ls hl => ?_)
                      refine lv_goto (tgt := 105) hx hb dX8_doStrings_210 (by decide) ?_
                      exact ih o_this_L105 (upd r_this_bytes_L105 (p3 + x6).toNatClampNeg (r_this_bytes_L105 (p4 + x6).toNatClampNeg)) (x6 + (1 : Int32)) _ _ _ (by first | exact q_up hm c_1 | exact q_up hm c_2 | exact q_up hm c_69 | exact q_up hm c_70 | exact q_up hm c_73 | exact q_up hm c_74 | exact q_up hm c_76 | exact q_up hm c_77)  hP hD hS (lv_sub hl [0, 1, 2, 3, 4, 5, 6] rfl) hF hs
              exact L105 ((((p2 + (1 : Int32)) : Int32).toInt - (0 : Int32).toInt).toNat + 1) w_72.2 r_this_bytes 0 _ _ _ (Nat.lt_succ_self _)  hP hD hS (lv_sub hl [0, 1, 2, 3, 4, 5, 6] rfl) hF hs
            · skip
              rw [if_pos c_74] at hF
              rw [if_pos c_74] at hs
              refine lv_iconst (v := 0) hx hb dX8_doStrings_91 (by decide) ?_
              refine lv_goto (tgt := 99) hx hb dX8_doStrings_92 (by decide) ?_
              refine pf_X8_52 (x := 0) hx hb hown ht hK hP hD hS 0 rfl (Nat.le_of_ble_eq_true rfl) dX8_doStrings_99 (fun H locs hP hD hS => ?_)
              have hP : va_P D vwCl [(a_this, oX8 a_this_bytes a_this_keys a_this_reg a_this_card a_this_filled a_this_taken a_this_line a_this_one a_this_two (w_72.2.1, w_72.2.2.1, 0, w_72.2.2.2.2.1, w_72.2.2.2.2.2.1, w_72.2.2.2.2.2.2.1, w_72.2.2.2.2.2.2.2.1, w_72.2.2.2.2.2.2.2.2.1, w_72.2.2.2.2.2.2.2.2.2.1, w_72.2.2.2.2.2.2.2.2.2.2.1, w_72.2.2.2.2.2.2.2.2.2.2.2.1, w_72.2.2.2.2.2.2.2.2.2.2.2.2.1, w_72.2.2.2.2.2.2.2.2.2.2.2.2.2.1, w_72.2.2.2.2.2.2.2.2.2.2.2.2.2.2.1, w_72.2.2.2.2.2.2.2.2.2.2.2.2.2.2.2.1, w_72.2.2.2.2.2.2.2.2.2.2.2.2.2.2.2.2.1, w_72.2.2.2.2.2.2.2.2.2.2.2.2.2.2.2.2.2.1, w_72.2.2.2.2.2.2.2.2.2.2.2.2.2.2.2.2.2.2.1, w_72.2.2.2.2.2.2.2.2.2.2.2.2.2.2.2.2.2.2.2.1, w_72.2.2.2.2.2.2.2.2.2.2.2.2.2.2.2.2.2.2.2.2.1, w_72.2.2.2.2.2.2.2.2.2.2.2.2.2.2.2.2.2.2.2.2.2.1, w_72.2.2.2.2.2.2.2.2.2.2.2.2.2.2.2.2.2.2.2.2.2.2.1, w_72.2.2.2.2.2.2.2.2.2.2.2.2.2.2.2.2.2.2.2.2.2.2.2.1, w_72.2.2.2.2.2.2.2.2.2.2.2.2.2.2.2.2.2.2.2.2.2.2.2.2.1, w_72.2.2.2.2.2.2.2.2.2.2.2.2.2.2.2.2.2.2.2.2.2.2.2.2.2)), (a_this_bytes, .inl (k_this_bytes, 2048, .inl r_this_bytes)), (a_this_keys, .inl (k_this_keys, 8, .inl r_this_keys)), (a_this_one, .inl (k_this_one, 40, .inl r_this_one)), (a_this_two, .inl (k_this_two, 40, .inl r_this_two))] H := hP
              have hD : va_D A [(a_this, oX8 a_this_bytes a_this_keys a_this_reg a_this_card a_this_filled a_this_taken a_this_line a_this_one a_this_two (w_72.2.1, w_72.2.2.1, 0, w_72.2.2.2.2.1, w_72.2.2.2.2.2.1, w_72.2.2.2.2.2.2.1, w_72.2.2.2.2.2.2.2.1, w_72.2.2.2.2.2.2.2.2.1, w_72.2.2.2.2.2.2.2.2.2.1, w_72.2.2.2.2.2.2.2.2.2.2.1, w_72.2.2.2.2.2.2.2.2.2.2.2.1, w_72.2.2.2.2.2.2.2.2.2.2.2.2.1, w_72.2.2.2.2.2.2.2.2.2.2.2.2.2.1, w_72.2.2.2.2.2.2.2.2.2.2.2.2.2.2.1, w_72.2.2.2.2.2.2.2.2.2.2.2.2.2.2.2.1, w_72.2.2.2.2.2.2.2.2.2.2.2.2.2.2.2.2.1, w_72.2.2.2.2.2.2.2.2.2.2.2.2.2.2.2.2.2.1, w_72.2.2.2.2.2.2.2.2.2.2.2.2.2.2.2.2.2.2.1, w_72.2.2.2.2.2.2.2.2.2.2.2.2.2.2.2.2.2.2.2.1, w_72.2.2.2.2.2.2.2.2.2.2.2.2.2.2.2.2.2.2.2.2.1, w_72.2.2.2.2.2.2.2.2.2.2.2.2.2.2.2.2.2.2.2.2.2.1, w_72.2.2.2.2.2.2.2.2.2.2.2.2.2.2.2.2.2.2.2.2.2.2.1, w_72.2.2.2.2.2.2.2.2.2.2.2.2.2.2.2.2.2.2.2.2.2.2.2.1, w_72.2.2.2.2.2.2.2.2.2.2.2.2.2.2.2.2.2.2.2.2.2.2.2.2.1, w_72.2.2.2.2.2.2.2.2.2.2.2.2.2.2.2.2.2.2.2.2.2.2.2.2.2)), (a_this_bytes, .inl (k_this_bytes, 2048, .inl r_this_bytes)), (a_this_keys, .inl (k_this_keys, 8, .inl r_this_keys)), (a_this_one, .inl (k_this_one, 40, .inl r_this_one)), (a_this_two, .inl (k_this_two, 40, .inl r_this_two))] := hD
              refine lv_iconst (v := 0) hx hb dX8_doStrings_102 (by decide) ?_
              refine lv_istore (lv' := [(6, .int 0), (5, .int (p2 + (1 : Int32))), (0, .ref a_this), (1, .int p1), (2, .int p2), (3, .int p3), (4, .int p4)]) hx hb dX8_doStrings_103 hl (by decide) rfl (fun ls hl => ?_)
              have L105 : ∀ (fuel : Nat) (o_this_L105 : Int32 × Int32 × Int32 × Int32 × Bool × Bool × Int32 × Int32 × Int32 × Int32 × Bool × Bool × Bool × Int32 × Int32 × Int32 × Int32 × Int32 × Int32 × Int32 × Int32 × Int32 × Int32 × Int32 × Int32) (r_this_bytes_L105 : Nat → Int32) (x6 : Int32) (H : Heap) (locs : List Loc) (ls : Array Slot), (((p2 + (1 : Int32)) : Int32).toInt - (x6 : Int32).toInt).toNat < fuel → va_P D vwCl [(a_this, oX8 a_this_bytes a_this_keys a_this_reg a_this_card a_this_filled a_this_taken a_this_line a_this_one a_this_two o_this_L105), (a_this_bytes, .inl (k_this_bytes, 2048, .inl r_this_bytes_L105)), (a_this_keys, .inl (k_this_keys, 8, .inl r_this_keys)), (a_this_one, .inl (k_this_one, 40, .inl r_this_one)), (a_this_two, .inl (k_this_two, 40, .inl r_this_two))] H → va_D A [(a_this, oX8 a_this_bytes a_this_keys a_this_reg a_this_card a_this_filled a_this_taken a_this_line a_this_one a_this_two o_this_L105), (a_this_bytes, .inl (k_this_bytes, 2048, .inl r_this_bytes_L105)), (a_this_keys, .inl (k_this_keys, 8, .inl r_this_keys)), (a_this_one, .inl (k_this_one, 40, .inl r_this_one)), (a_this_two, .inl (k_this_two, 40, .inl r_this_two))] → va_S A s.heap H locs → lv_has ls 7 [(6, .int x6), (5, .int (p2 + (1 : Int32))), (0, .ref a_this), (1, .int p1), (2, .int p2), (3, .int p3), (4, .int p4)] → f_X8_doStrings_L105bbbbb r_this_one r_this_two p1 p2 p3 p4 fuel o_this_L105 r_this_bytes_L105 x6 = F → s_X8_doStrings_L105bbbbb p1 p2 p3 p4 fuel o_this_L105 r_this_bytes_L105 x6 → W p l e ({ frames := 3, cells := 0, slots := 0, locals := 78 } : Room) s m ([.ref a_this, .int p1, .int p2, .int p3, .int p4] : List Value).toArray below meth c H locs 0 0 Q (F0 m 105 ls []) := by
                intro fuel
                induction fuel with
                | zero => intro o_this_L105 r_this_bytes_L105 x6 H locs ls hm; exact absurd hm (Nat.not_lt_zero _)
                | succ fuel ih =>
                  intro o_this_L105 r_this_bytes_L105 x6 H locs ls hm  hP hD hS hl hF hs
                  rw [f_X8_doStrings_L105bbbbb] at hF
                  rw [s_X8_doStrings_L105bbbbb] at hs
                  skip
                  refine lv_iload hx hb dX8_doStrings_105 (lv_at hl 0 rfl) ?_
                  refine lv_iload hx hb dX8_doStrings_107 (lv_at hl 1 rfl) ?_
                  refine lv_icmp_ge (tgt := 213) hx hb dX8_doStrings_109 (by decide) (fun c_89 => ?_) (fun c_89 => ?_)
                  · skip
                    rw [if_pos c_89] at hF
                    rw [if_pos c_89] at hs
                    exact hQ (o_this_L105, r_this_bytes_L105, r_this_one, r_this_two) _ _ _ _ dX8_doStrings_213 hF.symm hP hD hS
                  · skip
                    rw [if_neg c_89] at hF
                    rw [if_neg c_89] at hs
                    refine lv_iload_n hx hb dX8_doStrings_112 rfl (lv_at hl 3 rfl) ?_
                    refine lv_sipush (v := 210) hx hb dX8_doStrings_113 (by decide) ?_
                    refine lv_icmp_ne (tgt := 141) hx hb dX8_doStrings_116 (by decide) (fun c_90 => ?_) (fun c_90 => ?_)
                    · skip
                      rw [if_neg c_90] at hF
                      rw [if_neg c_90] at hs
                      refine lv_iload_n hx hb dX8_doStrings_141 rfl (lv_at hl 3 rfl) ?_
                      refine lv_sipush (v := 220) hx hb dX8_doStrings_142 (by decide) ?_
                      refine lv_icmp_ne (tgt := 177) hx hb dX8_doStrings_145 (by decide) (fun c_91 => ?_) (fun c_91 => ?_)
                      · skip
                        rw [if_neg c_91] at hF
                        rw [if_neg c_91] at hs
                        refine lv_aload_n hx hb dX8_doStrings_177 rfl (lv_at hl 2 rfl) ?_
                        refine gf_X8_52 (v := .int o_this_L105.2.2.1) hx hb hown ht hK hP 0 rfl rfl dX8_doStrings_178 ?_
                        refine lv_if_ne (tgt := 207) hx hb dX8_doStrings_181 (by decide) (fun c_92 => ?_) (fun c_92 => ?_)
                        · skip
                          rw [if_neg c_92] at hF
                          rw [if_neg c_92] at hs
                          refine lv_iinc (v := (x6 + (1 : Int32))) (lv' := [(6, .int (x6 + (1 : Int32))), (5, .int (p2 + (1 : Int32))), (0, .ref a_this), (1, .int p1), (2, .int p2), (3, .int p3), (4, .int p4)]) hx hb dX8_doStrings_207 hl (k := 0) rfl rfl (by decide) rfl (fun ls hl => ?_)
                          refine lv_goto (tgt := 105) hx hb dX8_doStrings_210 (by decide) ?_
                          exact ih o_this_L105 r_this_bytes_L105 (x6 + (1 : Int32)) _ _ _ (by first | exact q_up hm c_1 | exact q_up hm c_2 | exact q_up hm c_69 | exact q_up hm c_70 | exact q_up hm c_73 | exact q_up hm c_74 | exact q_up hm c_89 | exact q_up hm c_90 | exact q_up hm c_91 | exact q_up hm c_92)  hP hD hS (lv_sub hl [0, 1, 2, 3, 4, 5, 6] rfl) hF hs
                        · skip
                          rw [if_pos c_92] at hF
                          rw [if_pos c_92] at hs
                          refine lv_aload_n hx hb dX8_doStrings_184 rfl (lv_at hl 2 rfl) ?_
                          refine lv_aload_n hx hb dX8_doStrings_185 rfl (lv_at hl 2 rfl) ?_
                          refine gf_X8_7 (v := .ref a_this_bytes) hx hb hown ht hK hP 0 rfl rfl dX8_doStrings_186 ?_
                          refine lv_iload_n hx hb dX8_doStrings_189 rfl (lv_at hl 5 rfl) ?_
                          refine lv_iload hx hb dX8_doStrings_190 (lv_at hl 0 rfl) ?_
                          refine lv_iadd hx hb dX8_doStrings_192 ?_
                          obtain ⟨hi_93, hs⟩ := hs
                          refine va_iald hx hb hK hP 1 0 rfl rfl hi_93 dX8_doStrings_193 ?_
                          refine lv_aload_n hx hb dX8_doStrings_194 rfl (lv_at hl 2 rfl) ?_
                          refine gf_X8_7 (v := .ref a_this_bytes) hx hb hown ht hK hP 0 rfl rfl dX8_doStrings_195 ?_
                          refine lv_iload hx hb dX8_doStrings_198 (lv_at hl 6 rfl) ?_
                          refine lv_iload hx hb dX8_doStrings_200 (lv_at hl 0 rfl) ?_
                          refine lv_iadd hx hb dX8_doStrings_202 ?_
                          obtain ⟨hi_94, hs⟩ := hs
                          refine va_iald hx hb hK hP 1 0 rfl rfl hi_94 dX8_doStrings_203 ?_
                          refine q_Vv (rest := []) (c_X8_compared l D a_this a_this_bytes a_this_keys a_this_reg a_this_card a_this_filled a_this_taken a_this_line a_this_one a_this_two o_this_L105 (r_this_bytes_L105 (p3 + x6).toNatClampNeg) (r_this_bytes_L105 (p4 + x6).toNatClampNeg)) cv_X8_compared hx hb hml hown ht hN hK hA hP hD hS hl.1 (km_X8_131) ⟨Nat.le_of_ble_eq_true rfl, Nat.le_of_ble_eq_true rfl⟩ rfl rfl [0] (by decide) rfl [] rfl (fun _ => rfl) (ci := 8) rfl rfl rfl rfl rfl (Nat.le_of_ble_eq_true rfl) dX8_doStrings_204 ⟨Nat.zero_le _, Nat.zero_le _⟩ (fun w_95 H locs hw hP hD hS => ?_)
                          have hP : va_P D vwCl [(a_this, oX8 a_this_bytes a_this_keys a_this_reg a_this_card a_this_filled a_this_taken a_this_line a_this_one a_this_two w_95), (a_this_bytes, .inl (k_this_bytes, 2048, .inl r_this_bytes_L105)), (a_this_keys, .inl (k_this_keys, 8, .inl r_this_keys)), (a_this_one, .inl (k_this_one, 40, .inl r_this_one)), (a_this_two, .inl (k_this_two, 40, .inl r_this_two))] H := hP
                          have hD : va_D A [(a_this, oX8 a_this_bytes a_this_keys a_this_reg a_this_card a_this_filled a_this_taken a_this_line a_this_one a_this_two w_95), (a_this_bytes, .inl (k_this_bytes, 2048, .inl r_this_bytes_L105)), (a_this_keys, .inl (k_this_keys, 8, .inl r_this_keys)), (a_this_one, .inl (k_this_one, 40, .inl r_this_one)), (a_this_two, .inl (k_this_two, 40, .inl r_this_two))] := hD
                          rw [q_let_of hw] at hF
                          rw [q_let_of hw] at hs
                          refine lv_iinc (v := (x6 + (1 : Int32))) (lv' := [(6, .int (x6 + (1 : Int32))), (5, .int (p2 + (1 : Int32))), (0, .ref a_this), (1, .int p1), (2, .int p2), (3, .int p3), (4, .int p4)]) hx hb dX8_doStrings_207 hl (k := 0) rfl rfl (by decide) rfl (fun ls hl => ?_)
                          refine lv_goto (tgt := 105) hx hb dX8_doStrings_210 (by decide) ?_
                          exact ih w_95 r_this_bytes_L105 (x6 + (1 : Int32)) _ _ _ (by first | exact q_up hm c_1 | exact q_up hm c_2 | exact q_up hm c_69 | exact q_up hm c_70 | exact q_up hm c_73 | exact q_up hm c_74 | exact q_up hm c_89 | exact q_up hm c_90 | exact q_up hm c_91 | exact q_up hm c_92)  hP hD hS (lv_sub hl [0, 1, 2, 3, 4, 5, 6] rfl) hF hs
                      · skip
                        rw [if_pos c_91] at hF
                        rw [if_pos c_91] at hs
                        refine lv_aload_n hx hb dX8_doStrings_148 rfl (lv_at hl 2 rfl) ?_
                        refine gf_X8_7 (v := .ref a_this_bytes) hx hb hown ht hK hP 0 rfl rfl dX8_doStrings_149 ?_
                        refine lv_iload_n hx hb dX8_doStrings_152 rfl (lv_at hl 5 rfl) ?_
                        refine lv_iload hx hb dX8_doStrings_153 (lv_at hl 0 rfl) ?_
                        refine lv_iadd hx hb dX8_doStrings_155 ?_
                        refine lv_aload_n hx hb dX8_doStrings_156 rfl (lv_at hl 2 rfl) ?_
                        refine gf_X8_7 (v := .ref a_this_bytes) hx hb hown ht hK hP 0 rfl rfl dX8_doStrings_157 ?_
                        refine lv_iload hx hb dX8_doStrings_160 (lv_at hl 6 rfl) ?_
                        refine lv_aload_n hx hb dX8_doStrings_162 rfl (lv_at hl 2 rfl) ?_
                        refine gf_X8_7 (v := .ref a_this_bytes) hx hb hown ht hK hP 0 rfl rfl dX8_doStrings_163 ?_
                        refine lv_iload_n hx hb dX8_doStrings_166 rfl (lv_at hl 5 rfl) ?_
                        refine lv_iload hx hb dX8_doStrings_167 (lv_at hl 0 rfl) ?_
                        refine lv_iadd hx hb dX8_doStrings_169 ?_
                        obtain ⟨hi_96, hs⟩ := hs
                        refine va_iald hx hb hK hP 1 0 rfl rfl hi_96 dX8_doStrings_170 ?_
                        refine lv_iadd hx hb dX8_doStrings_171 ?_
                        obtain ⟨hi_97, hs⟩ := hs
                        refine va_iald hx hb hK hP 1 0 rfl rfl hi_97 dX8_doStrings_172 ?_
                        obtain ⟨hi_98, hs⟩ := hs
                        refine va_iast hx hb hK hP hD hS 1 0 rfl rfl hi_98 dX8_doStrings_173 (fun H locs hP hD hS => ?_)
                        have hP : va_P D vwCl [(a_this, oX8 a_this_bytes a_this_keys a_this_reg a_this_card a_this_filled a_this_taken a_this_line a_this_one a_this_two o_this_L105), (a_this_bytes, .inl (k_this_bytes, 2048, .inl (upd r_this_bytes_L105 (p3 + x6).toNatClampNeg (r_this_bytes_L105 (p4 + (r_this_bytes_L105 (p3 + x6).toNatClampNeg)).toNatClampNeg)))), (a_this_keys, .inl (k_this_keys, 8, .inl r_this_keys)), (a_this_one, .inl (k_this_one, 40, .inl r_this_one)), (a_this_two, .inl (k_this_two, 40, .inl r_this_two))] H := hP
                        have hD : va_D A [(a_this, oX8 a_this_bytes a_this_keys a_this_reg a_this_card a_this_filled a_this_taken a_this_line a_this_one a_this_two o_this_L105), (a_this_bytes, .inl (k_this_bytes, 2048, .inl (upd r_this_bytes_L105 (p3 + x6).toNatClampNeg (r_this_bytes_L105 (p4 + (r_this_bytes_L105 (p3 + x6).toNatClampNeg)).toNatClampNeg)))), (a_this_keys, .inl (k_this_keys, 8, .inl r_this_keys)), (a_this_one, .inl (k_this_one, 40, .inl r_this_one)), (a_this_two, .inl (k_this_two, 40, .inl r_this_two))] := hD
                        refine lv_goto (tgt := 207) hx hb dX8_doStrings_174 (by decide) ?_
                        refine lv_iinc (v := (x6 + (1 : Int32))) (lv' := [(6, .int (x6 + (1 : Int32))), (5, .int (p2 + (1 : Int32))), (0, .ref a_this), (1, .int p1), (2, .int p2), (3, .int p3), (4, .int p4)]) hx hb dX8_doStrings_207 hl (k := 0) rfl rfl (by decide) rfl (fun ls hl => ?_)
                        refine lv_goto (tgt := 105) hx hb dX8_doStrings_210 (by decide) ?_
                        exact ih o_this_L105 (upd r_this_bytes_L105 (p3 + x6).toNatClampNeg (r_this_bytes_L105 (p4 + (r_this_bytes_L105 (p3 + x6).toNatClampNeg)).toNatClampNeg)) (x6 + (1 : Int32)) _ _ _ (by first | exact q_up hm c_1 | exact q_up hm c_2 | exact q_up hm c_69 | exact q_up hm c_70 | exact q_up hm c_73 | exact q_up hm c_74 | exact q_up hm c_89 | exact q_up hm c_90 | exact q_up hm c_91)  hP hD hS (lv_sub hl [0, 1, 2, 3, 4, 5, 6] rfl) hF hs
                    · skip
                      rw [if_pos c_90] at hF
                      rw [if_pos c_90] at hs
                      refine lv_aload_n hx hb dX8_doStrings_119 rfl (lv_at hl 2 rfl) ?_
                      refine gf_X8_7 (v := .ref a_this_bytes) hx hb hown ht hK hP 0 rfl rfl dX8_doStrings_120 ?_
                      refine lv_iload_n hx hb dX8_doStrings_123 rfl (lv_at hl 5 rfl) ?_
                      refine lv_iload hx hb dX8_doStrings_124 (lv_at hl 0 rfl) ?_
                      refine lv_iadd hx hb dX8_doStrings_126 ?_
                      refine lv_aload_n hx hb dX8_doStrings_127 rfl (lv_at hl 2 rfl) ?_
                      refine gf_X8_7 (v := .ref a_this_bytes) hx hb hown ht hK hP 0 rfl rfl dX8_doStrings_128 ?_
                      refine lv_iload hx hb dX8_doStrings_131 (lv_at hl 6 rfl) ?_
                      refine lv_iload hx hb dX8_doStrings_133 (lv_at hl 0 rfl) ?_
                      refine lv_iadd hx hb dX8_doStrings_135 ?_
                      obtain ⟨hi_99, hs⟩ := hs
                      refine va_iald hx hb hK hP 1 0 rfl rfl hi_99 dX8_doStrings_136 ?_
                      obtain ⟨hi_100, hs⟩ := hs
                      refine va_iast hx hb hK hP hD hS 1 0 rfl rfl hi_100 dX8_doStrings_137 (fun H locs hP hD hS => ?_)
                      have hP : va_P D vwCl [(a_this, oX8 a_this_bytes a_this_keys a_this_reg a_this_card a_this_filled a_this_taken a_this_line a_this_one a_this_two o_this_L105), (a_this_bytes, .inl (k_this_bytes, 2048, .inl (upd r_this_bytes_L105 (p3 + x6).toNatClampNeg (r_this_bytes_L105 (p4 + x6).toNatClampNeg)))), (a_this_keys, .inl (k_this_keys, 8, .inl r_this_keys)), (a_this_one, .inl (k_this_one, 40, .inl r_this_one)), (a_this_two, .inl (k_this_two, 40, .inl r_this_two))] H := hP
                      have hD : va_D A [(a_this, oX8 a_this_bytes a_this_keys a_this_reg a_this_card a_this_filled a_this_taken a_this_line a_this_one a_this_two o_this_L105), (a_this_bytes, .inl (k_this_bytes, 2048, .inl (upd r_this_bytes_L105 (p3 + x6).toNatClampNeg (r_this_bytes_L105 (p4 + x6).toNatClampNeg)))), (a_this_keys, .inl (k_this_keys, 8, .inl r_this_keys)), (a_this_one, .inl (k_this_one, 40, .inl r_this_one)), (a_this_two, .inl (k_this_two, 40, .inl r_this_two))] := hD
                      refine lv_goto (tgt := 207) hx hb dX8_doStrings_138 (by decide) ?_
                      refine lv_iinc (v := (x6 + (1 : Int32))) (lv' := [(6, .int (x6 + (1 : Int32))), (5, .int (p2 + (1 : Int32))), (0, .ref a_this), (1, .int p1), (2, .int p2), (3, .int p3), (4, .int p4)]) hx hb dX8_doStrings_207 hl (k := 0) rfl rfl (by decide) rfl (fun ls hl => ?_)
                      refine lv_goto (tgt := 105) hx hb dX8_doStrings_210 (by decide) ?_
                      exact ih o_this_L105 (upd r_this_bytes_L105 (p3 + x6).toNatClampNeg (r_this_bytes_L105 (p4 + x6).toNatClampNeg)) (x6 + (1 : Int32)) _ _ _ (by first | exact q_up hm c_1 | exact q_up hm c_2 | exact q_up hm c_69 | exact q_up hm c_70 | exact q_up hm c_73 | exact q_up hm c_74 | exact q_up hm c_89 | exact q_up hm c_90)  hP hD hS (lv_sub hl [0, 1, 2, 3, 4, 5, 6] rfl) hF hs
              exact L105 ((((p2 + (1 : Int32)) : Int32).toInt - (0 : Int32).toInt).toNat + 1) (w_72.2.1, w_72.2.2.1, 0, w_72.2.2.2.2.1, w_72.2.2.2.2.2.1, w_72.2.2.2.2.2.2.1, w_72.2.2.2.2.2.2.2.1, w_72.2.2.2.2.2.2.2.2.1, w_72.2.2.2.2.2.2.2.2.2.1, w_72.2.2.2.2.2.2.2.2.2.2.1, w_72.2.2.2.2.2.2.2.2.2.2.2.1, w_72.2.2.2.2.2.2.2.2.2.2.2.2.1, w_72.2.2.2.2.2.2.2.2.2.2.2.2.2.1, w_72.2.2.2.2.2.2.2.2.2.2.2.2.2.2.1, w_72.2.2.2.2.2.2.2.2.2.2.2.2.2.2.2.1, w_72.2.2.2.2.2.2.2.2.2.2.2.2.2.2.2.2.1, w_72.2.2.2.2.2.2.2.2.2.2.2.2.2.2.2.2.2.1, w_72.2.2.2.2.2.2.2.2.2.2.2.2.2.2.2.2.2.2.1, w_72.2.2.2.2.2.2.2.2.2.2.2.2.2.2.2.2.2.2.2.1, w_72.2.2.2.2.2.2.2.2.2.2.2.2.2.2.2.2.2.2.2.2.1, w_72.2.2.2.2.2.2.2.2.2.2.2.2.2.2.2.2.2.2.2.2.2.1, w_72.2.2.2.2.2.2.2.2.2.2.2.2.2.2.2.2.2.2.2.2.2.2.1, w_72.2.2.2.2.2.2.2.2.2.2.2.2.2.2.2.2.2.2.2.2.2.2.2.1, w_72.2.2.2.2.2.2.2.2.2.2.2.2.2.2.2.2.2.2.2.2.2.2.2.2.1, w_72.2.2.2.2.2.2.2.2.2.2.2.2.2.2.2.2.2.2.2.2.2.2.2.2.2) r_this_bytes 0 _ _ _ (Nat.lt_succ_self _)  hP hD hS (lv_sub hl [0, 1, 2, 3, 4, 5, 6] rfl) hF hs
          · have c_73 : ¬ w_72.1 = true := by rw [(bI_eq0 _).mp c_73]; decide
            rw [if_neg c_73] at hF
            rw [if_neg c_73] at hs
            exact hQ (w_72.2, r_this_bytes, r_this_one, r_this_two) _ _ _ _ dX8_doStrings_82 hF.symm hP hD hS
        · skip
          rw [if_pos c_70] at hF
          rw [if_pos c_70] at hs
          refine lv_sipush (v := 256) hx hb dX8_doStrings_66 (by decide) ?_
          refine lv_goto (tgt := 74) hx hb dX8_doStrings_69 (by decide) ?_
          refine lv_iconst (v := 1) hx hb dX8_doStrings_74 (by decide) ?_
          refine lv_iconst (v := 0) hx hb dX8_doStrings_75 (by decide) ?_
          obtain ⟨hi_101, hs⟩ := hs
          refine q_Vi (rest := []) (c_X8_good l D a_this a_this_keys a_this_bytes a_this_reg a_this_card a_this_filled a_this_taken a_this_line a_this_one a_this_two k_this_keys w_68.2 r_this_keys p4 256 1 false hi_101) cv_X8_good hx hb hml hown ht hN hK hA hP hD hS hl.1 (km_X8_158) ⟨Nat.le_of_ble_eq_true rfl, Nat.le_of_ble_eq_true rfl⟩ rfl rfl [0, 2] (by decide) rfl [1] rfl (fun _ => rfl) (ci := 8) rfl rfl rfl rfl rfl (Nat.le_of_ble_eq_true rfl) dX8_doStrings_76 ⟨Nat.zero_le _, Nat.zero_le _⟩ (fun r w_102 H locs hw hP hD hS => ?_)
          obtain ⟨hw, hr⟩ := hw
          subst hr
          have hP : va_P D vwCl [(a_this, oX8 a_this_bytes a_this_keys a_this_reg a_this_card a_this_filled a_this_taken a_this_line a_this_one a_this_two w_102.2), (a_this_bytes, .inl (k_this_bytes, 2048, .inl r_this_bytes)), (a_this_keys, .inl (k_this_keys, 8, .inl r_this_keys)), (a_this_one, .inl (k_this_one, 40, .inl r_this_one)), (a_this_two, .inl (k_this_two, 40, .inl r_this_two))] H := hP
          have hD : va_D A [(a_this, oX8 a_this_bytes a_this_keys a_this_reg a_this_card a_this_filled a_this_taken a_this_line a_this_one a_this_two w_102.2), (a_this_bytes, .inl (k_this_bytes, 2048, .inl r_this_bytes)), (a_this_keys, .inl (k_this_keys, 8, .inl r_this_keys)), (a_this_one, .inl (k_this_one, 40, .inl r_this_one)), (a_this_two, .inl (k_this_two, 40, .inl r_this_two))] := hD
          rw [q_let_of hw] at hF
          rw [q_let_of hw] at hs
          refine lv_if_ne (tgt := 83) hx hb dX8_doStrings_79 (by decide) (fun c_103 => ?_) (fun c_103 => ?_)
          · have c_103 := (bI_ne0 _).mp c_103
            rw [if_pos c_103] at hF
            rw [if_pos c_103] at hs
            refine lv_aload_n hx hb dX8_doStrings_83 rfl (lv_at hl 1 rfl) ?_
            refine lv_iload_n hx hb dX8_doStrings_84 rfl (lv_at hl 2 rfl) ?_
            refine lv_sipush (v := 213) hx hb dX8_doStrings_85 (by decide) ?_
            refine lv_icmp_ne (tgt := 95) hx hb dX8_doStrings_88 (by decide) (fun c_104 => ?_) (fun c_104 => ?_)
            · skip
              rw [if_neg c_104] at hF
              rw [if_neg c_104] at hs
              refine lv_aload_n hx hb dX8_doStrings_95 rfl (lv_at hl 1 rfl) ?_
              refine gf_X8_52 (v := .int w_102.2.2.2.1) hx hb hown ht hK hP 0 rfl rfl dX8_doStrings_96 ?_
              refine pf_X8_52 (x := w_102.2.2.2.1) hx hb hown ht hK hP hD hS 0 rfl (Nat.le_of_ble_eq_true rfl) dX8_doStrings_99 (fun H locs hP hD hS => ?_)
              have hP : va_P D vwCl [(a_this, oX8 a_this_bytes a_this_keys a_this_reg a_this_card a_this_filled a_this_taken a_this_line a_this_one a_this_two w_102.2), (a_this_bytes, .inl (k_this_bytes, 2048, .inl r_this_bytes)), (a_this_keys, .inl (k_this_keys, 8, .inl r_this_keys)), (a_this_one, .inl (k_this_one, 40, .inl r_this_one)), (a_this_two, .inl (k_this_two, 40, .inl r_this_two))] H := hP
              have hD : va_D A [(a_this, oX8 a_this_bytes a_this_keys a_this_reg a_this_card a_this_filled a_this_taken a_this_line a_this_one a_this_two w_102.2), (a_this_bytes, .inl (k_this_bytes, 2048, .inl r_this_bytes)), (a_this_keys, .inl (k_this_keys, 8, .inl r_this_keys)), (a_this_one, .inl (k_this_one, 40, .inl r_this_one)), (a_this_two, .inl (k_this_two, 40, .inl r_this_two))] := hD
              refine lv_iconst (v := 0) hx hb dX8_doStrings_102 (by decide) ?_
              refine lv_istore (lv' := [(6, .int 0), (5, .int (p2 + (1 : Int32))), (0, .ref a_this), (1, .int p1), (2, .int p2), (3, .int p3), (4, .int p4)]) hx hb dX8_doStrings_103 hl (by decide) rfl (fun ls hl => ?_)
              have L105 : ∀ (fuel : Nat) (o_this_L105 : Int32 × Int32 × Int32 × Int32 × Bool × Bool × Int32 × Int32 × Int32 × Int32 × Bool × Bool × Bool × Int32 × Int32 × Int32 × Int32 × Int32 × Int32 × Int32 × Int32 × Int32 × Int32 × Int32 × Int32) (r_this_bytes_L105 : Nat → Int32) (x6 : Int32) (H : Heap) (locs : List Loc) (ls : Array Slot), (((p2 + (1 : Int32)) : Int32).toInt - (x6 : Int32).toInt).toNat < fuel → va_P D vwCl [(a_this, oX8 a_this_bytes a_this_keys a_this_reg a_this_card a_this_filled a_this_taken a_this_line a_this_one a_this_two o_this_L105), (a_this_bytes, .inl (k_this_bytes, 2048, .inl r_this_bytes_L105)), (a_this_keys, .inl (k_this_keys, 8, .inl r_this_keys)), (a_this_one, .inl (k_this_one, 40, .inl r_this_one)), (a_this_two, .inl (k_this_two, 40, .inl r_this_two))] H → va_D A [(a_this, oX8 a_this_bytes a_this_keys a_this_reg a_this_card a_this_filled a_this_taken a_this_line a_this_one a_this_two o_this_L105), (a_this_bytes, .inl (k_this_bytes, 2048, .inl r_this_bytes_L105)), (a_this_keys, .inl (k_this_keys, 8, .inl r_this_keys)), (a_this_one, .inl (k_this_one, 40, .inl r_this_one)), (a_this_two, .inl (k_this_two, 40, .inl r_this_two))] → va_S A s.heap H locs → lv_has ls 7 [(6, .int x6), (5, .int (p2 + (1 : Int32))), (0, .ref a_this), (1, .int p1), (2, .int p2), (3, .int p3), (4, .int p4)] → f_X8_doStrings_L105bbbbbb r_this_one r_this_two p1 p2 p3 p4 fuel o_this_L105 r_this_bytes_L105 x6 = F → s_X8_doStrings_L105bbbbbb p1 p2 p3 p4 fuel o_this_L105 r_this_bytes_L105 x6 → W p l e ({ frames := 3, cells := 0, slots := 0, locals := 78 } : Room) s m ([.ref a_this, .int p1, .int p2, .int p3, .int p4] : List Value).toArray below meth c H locs 0 0 Q (F0 m 105 ls []) := by
                intro fuel
                induction fuel with
                | zero => intro o_this_L105 r_this_bytes_L105 x6 H locs ls hm; exact absurd hm (Nat.not_lt_zero _)
                | succ fuel ih =>
                  intro o_this_L105 r_this_bytes_L105 x6 H locs ls hm  hP hD hS hl hF hs
                  rw [f_X8_doStrings_L105bbbbbb] at hF
                  rw [s_X8_doStrings_L105bbbbbb] at hs
                  skip
                  refine lv_iload hx hb dX8_doStrings_105 (lv_at hl 0 rfl) ?_
                  refine lv_iload hx hb dX8_doStrings_107 (lv_at hl 1 rfl) ?_
                  refine lv_icmp_ge (tgt := 213) hx hb dX8_doStrings_109 (by decide) (fun c_106 => ?_) (fun c_106 => ?_)
                  · skip
                    rw [if_pos c_106] at hF
                    rw [if_pos c_106] at hs
                    exact hQ (o_this_L105, r_this_bytes_L105, r_this_one, r_this_two) _ _ _ _ dX8_doStrings_213 hF.symm hP hD hS
                  · skip
                    rw [if_neg c_106] at hF
                    rw [if_neg c_106] at hs
                    refine lv_iload_n hx hb dX8_doStrings_112 rfl (lv_at hl 3 rfl) ?_
                    refine lv_sipush (v := 210) hx hb dX8_doStrings_113 (by decide) ?_
                    refine lv_icmp_ne (tgt := 141) hx hb dX8_doStrings_116 (by decide) (fun c_107 => ?_) (fun c_107 => ?_)
                    · skip
                      rw [if_neg c_107] at hF
                      rw [if_neg c_107] at hs
                      refine lv_iload_n hx hb dX8_doStrings_141 rfl (lv_at hl 3 rfl) ?_
                      refine lv_sipush (v := 220) hx hb dX8_doStrings_142 (by decide) ?_
                      refine lv_icmp_ne (tgt := 177) hx hb dX8_doStrings_145 (by decide) (fun c_108 => ?_) (fun c_108 => ?_)
                      · skip
                        rw [if_neg c_108] at hF
                        rw [if_neg c_108] at hs
                        refine lv_aload_n hx hb dX8_doStrings_177 rfl (lv_at hl 2 rfl) ?_
                        refine gf_X8_52 (v := .int o_this_L105.2.2.1) hx hb hown ht hK hP 0 rfl rfl dX8_doStrings_178 ?_
                        refine lv_if_ne (tgt := 207) hx hb dX8_doStrings_181 (by decide) (fun c_109 => ?_) (fun c_109 => ?_)
                        · skip
                          rw [if_neg c_109] at hF
                          rw [if_neg c_109] at hs
                          refine lv_iinc (v := (x6 + (1 : Int32))) (lv' := [(6, .int (x6 + (1 : Int32))), (5, .int (p2 + (1 : Int32))), (0, .ref a_this), (1, .int p1), (2, .int p2), (3, .int p3), (4, .int p4)]) hx hb dX8_doStrings_207 hl (k := 0) rfl rfl (by decide) rfl (fun ls hl => ?_)
                          refine lv_goto (tgt := 105) hx hb dX8_doStrings_210 (by decide) ?_
                          exact ih o_this_L105 r_this_bytes_L105 (x6 + (1 : Int32)) _ _ _ (by first | exact q_up hm c_1 | exact q_up hm c_2 | exact q_up hm c_69 | exact q_up hm c_70 | exact q_up hm c_103 | exact q_up hm c_104 | exact q_up hm c_106 | exact q_up hm c_107 | exact q_up hm c_108 | exact q_up hm c_109)  hP hD hS (lv_sub hl [0, 1, 2, 3, 4, 5, 6] rfl) hF hs
                        · skip
                          rw [if_pos c_109] at hF
                          rw [if_pos c_109] at hs
                          refine lv_aload_n hx hb dX8_doStrings_184 rfl (lv_at hl 2 rfl) ?_
                          refine lv_aload_n hx hb dX8_doStrings_185 rfl (lv_at hl 2 rfl) ?_
                          refine gf_X8_7 (v := .ref a_this_bytes) hx hb hown ht hK hP 0 rfl rfl dX8_doStrings_186 ?_
                          refine lv_iload_n hx hb dX8_doStrings_189 rfl (lv_at hl 5 rfl) ?_
                          refine lv_iload hx hb dX8_doStrings_190 (lv_at hl 0 rfl) ?_
                          refine lv_iadd hx hb dX8_doStrings_192 ?_
                          obtain ⟨hi_110, hs⟩ := hs
                          refine va_iald hx hb hK hP 1 0 rfl rfl hi_110 dX8_doStrings_193 ?_
                          refine lv_aload_n hx hb dX8_doStrings_194 rfl (lv_at hl 2 rfl) ?_
                          refine gf_X8_7 (v := .ref a_this_bytes) hx hb hown ht hK hP 0 rfl rfl dX8_doStrings_195 ?_
                          refine lv_iload hx hb dX8_doStrings_198 (lv_at hl 6 rfl) ?_
                          refine lv_iload hx hb dX8_doStrings_200 (lv_at hl 0 rfl) ?_
                          refine lv_iadd hx hb dX8_doStrings_202 ?_
                          obtain ⟨hi_111, hs⟩ := hs
                          refine va_iald hx hb hK hP 1 0 rfl rfl hi_111 dX8_doStrings_203 ?_
                          refine q_Vv (rest := []) (c_X8_compared l D a_this a_this_bytes a_this_keys a_this_reg a_this_card a_this_filled a_this_taken a_this_line a_this_one a_this_two o_this_L105 (r_this_bytes_L105 (p3 + x6).toNatClampNeg) (r_this_bytes_L105 (p4 + x6).toNatClampNeg)) cv_X8_compared hx hb hml hown ht hN hK hA hP hD hS hl.1 (km_X8_131) ⟨Nat.le_of_ble_eq_true rfl, Nat.le_of_ble_eq_true rfl⟩ rfl rfl [0] (by decide) rfl [] rfl (fun _ => rfl) (ci := 8) rfl rfl rfl rfl rfl (Nat.le_of_ble_eq_true rfl) dX8_doStrings_204 ⟨Nat.zero_le _, Nat.zero_le _⟩ (fun w_112 H locs hw hP hD hS => ?_)
                          have hP : va_P D vwCl [(a_this, oX8 a_this_bytes a_this_keys a_this_reg a_this_card a_this_filled a_this_taken a_this_line a_this_one a_this_two w_112), (a_this_bytes, .inl (k_this_bytes, 2048, .inl r_this_bytes_L105)), (a_this_keys, .inl (k_this_keys, 8, .inl r_this_keys)), (a_this_one, .inl (k_this_one, 40, .inl r_this_one)), (a_this_two, .inl (k_this_two, 40, .inl r_this_two))] H := hP
                          have hD : va_D A [(a_this, oX8 a_this_bytes a_this_keys a_this_reg a_this_card a_this_filled a_this_taken a_this_line a_this_one a_this_two w_112), (a_this_bytes, .inl (k_this_bytes, 2048, .inl r_this_bytes_L105)), (a_this_keys, .inl (k_this_keys, 8, .inl r_this_keys)), (a_this_one, .inl (k_this_one, 40, .inl r_this_one)), (a_this_two, .inl (k_this_two, 40, .inl r_this_two))] := hD
                          rw [q_let_of hw] at hF
                          rw [q_let_of hw] at hs
                          refine lv_iinc (v := (x6 + (1 : Int32))) (lv' := [(6, .int (x6 + (1 : Int32))), (5, .int (p2 + (1 : Int32))), (0, .ref a_this), (1, .int p1), (2, .int p2), (3, .int p3), (4, .int p4)]) hx hb dX8_doStrings_207 hl (k := 0) rfl rfl (by decide) rfl (fun ls hl => ?_)
                          refine lv_goto (tgt := 105) hx hb dX8_doStrings_210 (by decide) ?_
                          exact ih w_112 r_this_bytes_L105 (x6 + (1 : Int32)) _ _ _ (by first | exact q_up hm c_1 | exact q_up hm c_2 | exact q_up hm c_69 | exact q_up hm c_70 | exact q_up hm c_103 | exact q_up hm c_104 | exact q_up hm c_106 | exact q_up hm c_107 | exact q_up hm c_108 | exact q_up hm c_109)  hP hD hS (lv_sub hl [0, 1, 2, 3, 4, 5, 6] rfl) hF hs
                      · skip
                        rw [if_pos c_108] at hF
                        rw [if_pos c_108] at hs
                        refine lv_aload_n hx hb dX8_doStrings_148 rfl (lv_at hl 2 rfl) ?_
                        refine gf_X8_7 (v := .ref a_this_bytes) hx hb hown ht hK hP 0 rfl rfl dX8_doStrings_149 ?_
                        refine lv_iload_n hx hb dX8_doStrings_152 rfl (lv_at hl 5 rfl) ?_
                        refine lv_iload hx hb dX8_doStrings_153 (lv_at hl 0 rfl) ?_
                        refine lv_iadd hx hb dX8_doStrings_155 ?_
                        refine lv_aload_n hx hb dX8_doStrings_156 rfl (lv_at hl 2 rfl) ?_
                        refine gf_X8_7 (v := .ref a_this_bytes) hx hb hown ht hK hP 0 rfl rfl dX8_doStrings_157 ?_
                        refine lv_iload hx hb dX8_doStrings_160 (lv_at hl 6 rfl) ?_
                        refine lv_aload_n hx hb dX8_doStrings_162 rfl (lv_at hl 2 rfl) ?_
                        refine gf_X8_7 (v := .ref a_this_bytes) hx hb hown ht hK hP 0 rfl rfl dX8_doStrings_163 ?_
                        refine lv_iload_n hx hb dX8_doStrings_166 rfl (lv_at hl 5 rfl) ?_
                        refine lv_iload hx hb dX8_doStrings_167 (lv_at hl 0 rfl) ?_
                        refine lv_iadd hx hb dX8_doStrings_169 ?_
                        obtain ⟨hi_113, hs⟩ := hs
                        refine va_iald hx hb hK hP 1 0 rfl rfl hi_113 dX8_doStrings_170 ?_
                        refine lv_iadd hx hb dX8_doStrings_171 ?_
                        obtain ⟨hi_114, hs⟩ := hs
                        refine va_iald hx hb hK hP 1 0 rfl rfl hi_114 dX8_doStrings_172 ?_
                        obtain ⟨hi_115, hs⟩ := hs
                        refine va_iast hx hb hK hP hD hS 1 0 rfl rfl hi_115 dX8_doStrings_173 (fun H locs hP hD hS => ?_)
                        have hP : va_P D vwCl [(a_this, oX8 a_this_bytes a_this_keys a_this_reg a_this_card a_this_filled a_this_taken a_this_line a_this_one a_this_two o_this_L105), (a_this_bytes, .inl (k_this_bytes, 2048, .inl (upd r_this_bytes_L105 (p3 + x6).toNatClampNeg (r_this_bytes_L105 (p4 + (r_this_bytes_L105 (p3 + x6).toNatClampNeg)).toNatClampNeg)))), (a_this_keys, .inl (k_this_keys, 8, .inl r_this_keys)), (a_this_one, .inl (k_this_one, 40, .inl r_this_one)), (a_this_two, .inl (k_this_two, 40, .inl r_this_two))] H := hP
                        have hD : va_D A [(a_this, oX8 a_this_bytes a_this_keys a_this_reg a_this_card a_this_filled a_this_taken a_this_line a_this_one a_this_two o_this_L105), (a_this_bytes, .inl (k_this_bytes, 2048, .inl (upd r_this_bytes_L105 (p3 + x6).toNatClampNeg (r_this_bytes_L105 (p4 + (r_this_bytes_L105 (p3 + x6).toNatClampNeg)).toNatClampNeg)))), (a_this_keys, .inl (k_this_keys, 8, .inl r_this_keys)), (a_this_one, .inl (k_this_one, 40, .inl r_this_one)), (a_this_two, .inl (k_this_two, 40, .inl r_this_two))] := hD
                        refine lv_goto (tgt := 207) hx hb dX8_doStrings_174 (by decide) ?_
                        refine lv_iinc (v := (x6 + (1 : Int32))) (lv' := [(6, .int (x6 + (1 : Int32))), (5, .int (p2 + (1 : Int32))), (0, .ref a_this), (1, .int p1), (2, .int p2), (3, .int p3), (4, .int p4)]) hx hb dX8_doStrings_207 hl (k := 0) rfl rfl (by decide) rfl (fun ls hl => ?_)
                        refine lv_goto (tgt := 105) hx hb dX8_doStrings_210 (by decide) ?_
                        exact ih o_this_L105 (upd r_this_bytes_L105 (p3 + x6).toNatClampNeg (r_this_bytes_L105 (p4 + (r_this_bytes_L105 (p3 + x6).toNatClampNeg)).toNatClampNeg)) (x6 + (1 : Int32)) _ _ _ (by first | exact q_up hm c_1 | exact q_up hm c_2 | exact q_up hm c_69 | exact q_up hm c_70 | exact q_up hm c_103 | exact q_up hm c_104 | exact q_up hm c_106 | exact q_up hm c_107 | exact q_up hm c_108)  hP hD hS (lv_sub hl [0, 1, 2, 3, 4, 5, 6] rfl) hF hs
                    · skip
                      rw [if_pos c_107] at hF
                      rw [if_pos c_107] at hs
                      refine lv_aload_n hx hb dX8_doStrings_119 rfl (lv_at hl 2 rfl) ?_
                      refine gf_X8_7 (v := .ref a_this_bytes) hx hb hown ht hK hP 0 rfl rfl dX8_doStrings_120 ?_
                      refine lv_iload_n hx hb dX8_doStrings_123 rfl (lv_at hl 5 rfl) ?_
                      refine lv_iload hx hb dX8_doStrings_124 (lv_at hl 0 rfl) ?_
                      refine lv_iadd hx hb dX8_doStrings_126 ?_
                      refine lv_aload_n hx hb dX8_doStrings_127 rfl (lv_at hl 2 rfl) ?_
                      refine gf_X8_7 (v := .ref a_this_bytes) hx hb hown ht hK hP 0 rfl rfl dX8_doStrings_128 ?_
                      refine lv_iload hx hb dX8_doStrings_131 (lv_at hl 6 rfl) ?_
                      refine lv_iload hx hb dX8_doStrings_133 (lv_at hl 0 rfl) ?_
                      refine lv_iadd hx hb dX8_doStrings_135 ?_
                      obtain ⟨hi_116, hs⟩ := hs
                      refine va_iald hx hb hK hP 1 0 rfl rfl hi_116 dX8_doStrings_136 ?_
                      obtain ⟨hi_117, hs⟩ := hs
                      refine va_iast hx hb hK hP hD hS 1 0 rfl rfl hi_117 dX8_doStrings_137 (fun H locs hP hD hS => ?_)
                      have hP : va_P D vwCl [(a_this, oX8 a_this_bytes a_this_keys a_this_reg a_this_card a_this_filled a_this_taken a_this_line a_this_one a_this_two o_this_L105), (a_this_bytes, .inl (k_this_bytes, 2048, .inl (upd r_this_bytes_L105 (p3 + x6).toNatClampNeg (r_this_bytes_L105 (p4 + x6).toNatClampNeg)))), (a_this_keys, .inl (k_this_keys, 8, .inl r_this_keys)), (a_this_one, .inl (k_this_one, 40, .inl r_this_one)), (a_this_two, .inl (k_this_two, 40, .inl r_this_two))] H := hP
                      have hD : va_D A [(a_this, oX8 a_this_bytes a_this_keys a_this_reg a_this_card a_this_filled a_this_taken a_this_line a_this_one a_this_two o_this_L105), (a_this_bytes, .inl (k_this_bytes, 2048, .inl (upd r_this_bytes_L105 (p3 + x6).toNatClampNeg (r_this_bytes_L105 (p4 + x6).toNatClampNeg)))), (a_this_keys, .inl (k_this_keys, 8, .inl r_this_keys)), (a_this_one, .inl (k_this_one, 40, .inl r_this_one)), (a_this_two, .inl (k_this_two, 40, .inl r_this_two))] := hD
                      refine lv_goto (tgt := 207) hx hb dX8_doStrings_138 (by decide) ?_
                      refine lv_iinc (v := (x6 + (1 : Int32))) (lv' := [(6, .int (x6 + (1 : Int32))), (5, .int (p2 + (1 : Int32))), (0, .ref a_this), (1, .int p1), (2, .int p2), (3, .int p3), (4, .int p4)]) hx hb dX8_doStrings_207 hl (k := 0) rfl rfl (by decide) rfl (fun ls hl => ?_)
                      refine lv_goto (tgt := 105) hx hb dX8_doStrings_210 (by decide) ?_
                      exact ih o_this_L105 (upd r_this_bytes_L105 (p3 + x6).toNatClampNeg (r_this_bytes_L105 (p4 + x6).toNatClampNeg)) (x6 + (1 : Int32)) _ _ _ (by first | exact q_up hm c_1 | exact q_up hm c_2 | exact q_up hm c_69 | exact q_up hm c_70 | exact q_up hm c_103 | exact q_up hm c_104 | exact q_up hm c_106 | exact q_up hm c_107)  hP hD hS (lv_sub hl [0, 1, 2, 3, 4, 5, 6] rfl) hF hs
              exact L105 ((((p2 + (1 : Int32)) : Int32).toInt - (0 : Int32).toInt).toNat + 1) w_102.2 r_this_bytes 0 _ _ _ (Nat.lt_succ_self _)  hP hD hS (lv_sub hl [0, 1, 2, 3, 4, 5, 6] rfl) hF hs
            · skip
              rw [if_pos c_104] at hF
              rw [if_pos c_104] at hs
              refine lv_iconst (v := 0) hx hb dX8_doStrings_91 (by decide) ?_
              refine lv_goto (tgt := 99) hx hb dX8_doStrings_92 (by decide) ?_
              refine pf_X8_52 (x := 0) hx hb hown ht hK hP hD hS 0 rfl (Nat.le_of_ble_eq_true rfl) dX8_doStrings_99 (fun H locs hP hD hS => ?_)
              have hP : va_P D vwCl [(a_this, oX8 a_this_bytes a_this_keys a_this_reg a_this_card a_this_filled a_this_taken a_this_line a_this_one a_this_two (w_102.2.1, w_102.2.2.1, 0, w_102.2.2.2.2.1, w_102.2.2.2.2.2.1, w_102.2.2.2.2.2.2.1, w_102.2.2.2.2.2.2.2.1, w_102.2.2.2.2.2.2.2.2.1, w_102.2.2.2.2.2.2.2.2.2.1, w_102.2.2.2.2.2.2.2.2.2.2.1, w_102.2.2.2.2.2.2.2.2.2.2.2.1, w_102.2.2.2.2.2.2.2.2.2.2.2.2.1, w_102.2.2.2.2.2.2.2.2.2.2.2.2.2.1, w_102.2.2.2.2.2.2.2.2.2.2.2.2.2.2.1, w_102.2.2.2.2.2.2.2.2.2.2.2.2.2.2.2.1, w_102.2.2.2.2.2.2.2.2.2.2.2.2.2.2.2.2.1, w_102.2.2.2.2.2.2.2.2.2.2.2.2.2.2.2.2.2.1, w_102.2.2.2.2.2.2.2.2.2.2.2.2.2.2.2.2.2.2.1, w_102.2.2.2.2.2.2.2.2.2.2.2.2.2.2.2.2.2.2.2.1, w_102.2.2.2.2.2.2.2.2.2.2.2.2.2.2.2.2.2.2.2.2.1, w_102.2.2.2.2.2.2.2.2.2.2.2.2.2.2.2.2.2.2.2.2.2.1, w_102.2.2.2.2.2.2.2.2.2.2.2.2.2.2.2.2.2.2.2.2.2.2.1, w_102.2.2.2.2.2.2.2.2.2.2.2.2.2.2.2.2.2.2.2.2.2.2.2.1, w_102.2.2.2.2.2.2.2.2.2.2.2.2.2.2.2.2.2.2.2.2.2.2.2.2.1, w_102.2.2.2.2.2.2.2.2.2.2.2.2.2.2.2.2.2.2.2.2.2.2.2.2.2)), (a_this_bytes, .inl (k_this_bytes, 2048, .inl r_this_bytes)), (a_this_keys, .inl (k_this_keys, 8, .inl r_this_keys)), (a_this_one, .inl (k_this_one, 40, .inl r_this_one)), (a_this_two, .inl (k_this_two, 40, .inl r_this_two))] H := hP
              have hD : va_D A [(a_this, oX8 a_this_bytes a_this_keys a_this_reg a_this_card a_this_filled a_this_taken a_this_line a_this_one a_this_two (w_102.2.1, w_102.2.2.1, 0, w_102.2.2.2.2.1, w_102.2.2.2.2.2.1, w_102.2.2.2.2.2.2.1, w_102.2.2.2.2.2.2.2.1, w_102.2.2.2.2.2.2.2.2.1, w_102.2.2.2.2.2.2.2.2.2.1, w_102.2.2.2.2.2.2.2.2.2.2.1, w_102.2.2.2.2.2.2.2.2.2.2.2.1, w_102.2.2.2.2.2.2.2.2.2.2.2.2.1, w_102.2.2.2.2.2.2.2.2.2.2.2.2.2.1, w_102.2.2.2.2.2.2.2.2.2.2.2.2.2.2.1, w_102.2.2.2.2.2.2.2.2.2.2.2.2.2.2.2.1, w_102.2.2.2.2.2.2.2.2.2.2.2.2.2.2.2.2.1, w_102.2.2.2.2.2.2.2.2.2.2.2.2.2.2.2.2.2.1, w_102.2.2.2.2.2.2.2.2.2.2.2.2.2.2.2.2.2.2.1, w_102.2.2.2.2.2.2.2.2.2.2.2.2.2.2.2.2.2.2.2.1, w_102.2.2.2.2.2.2.2.2.2.2.2.2.2.2.2.2.2.2.2.2.1, w_102.2.2.2.2.2.2.2.2.2.2.2.2.2.2.2.2.2.2.2.2.2.1, w_102.2.2.2.2.2.2.2.2.2.2.2.2.2.2.2.2.2.2.2.2.2.2.1, w_102.2.2.2.2.2.2.2.2.2.2.2.2.2.2.2.2.2.2.2.2.2.2.2.1, w_102.2.2.2.2.2.2.2.2.2.2.2.2.2.2.2.2.2.2.2.2.2.2.2.2.1, w_102.2.2.2.2.2.2.2.2.2.2.2.2.2.2.2.2.2.2.2.2.2.2.2.2.2)), (a_this_bytes, .inl (k_this_bytes, 2048, .inl r_this_bytes)), (a_this_keys, .inl (k_this_keys, 8, .inl r_this_keys)), (a_this_one, .inl (k_this_one, 40, .inl r_this_one)), (a_this_two, .inl (k_this_two, 40, .inl r_this_two))] := hD
              refine lv_iconst (v := 0) hx hb dX8_doStrings_102 (by decide) ?_
              refine lv_istore (lv' := [(6, .int 0), (5, .int (p2 + (1 : Int32))), (0, .ref a_this), (1, .int p1), (2, .int p2), (3, .int p3), (4, .int p4)]) hx hb dX8_doStrings_103 hl (by decide) rfl (fun ls hl => ?_)
              have L105 : ∀ (fuel : Nat) (o_this_L105 : Int32 × Int32 × Int32 × Int32 × Bool × Bool × Int32 × Int32 × Int32 × Int32 × Bool × Bool × Bool × Int32 × Int32 × Int32 × Int32 × Int32 × Int32 × Int32 × Int32 × Int32 × Int32 × Int32 × Int32) (r_this_bytes_L105 : Nat → Int32) (x6 : Int32) (H : Heap) (locs : List Loc) (ls : Array Slot), (((p2 + (1 : Int32)) : Int32).toInt - (x6 : Int32).toInt).toNat < fuel → va_P D vwCl [(a_this, oX8 a_this_bytes a_this_keys a_this_reg a_this_card a_this_filled a_this_taken a_this_line a_this_one a_this_two o_this_L105), (a_this_bytes, .inl (k_this_bytes, 2048, .inl r_this_bytes_L105)), (a_this_keys, .inl (k_this_keys, 8, .inl r_this_keys)), (a_this_one, .inl (k_this_one, 40, .inl r_this_one)), (a_this_two, .inl (k_this_two, 40, .inl r_this_two))] H → va_D A [(a_this, oX8 a_this_bytes a_this_keys a_this_reg a_this_card a_this_filled a_this_taken a_this_line a_this_one a_this_two o_this_L105), (a_this_bytes, .inl (k_this_bytes, 2048, .inl r_this_bytes_L105)), (a_this_keys, .inl (k_this_keys, 8, .inl r_this_keys)), (a_this_one, .inl (k_this_one, 40, .inl r_this_one)), (a_this_two, .inl (k_this_two, 40, .inl r_this_two))] → va_S A s.heap H locs → lv_has ls 7 [(6, .int x6), (5, .int (p2 + (1 : Int32))), (0, .ref a_this), (1, .int p1), (2, .int p2), (3, .int p3), (4, .int p4)] → f_X8_doStrings_L105bbbbbbb r_this_one r_this_two p1 p2 p3 p4 fuel o_this_L105 r_this_bytes_L105 x6 = F → s_X8_doStrings_L105bbbbbbb p1 p2 p3 p4 fuel o_this_L105 r_this_bytes_L105 x6 → W p l e ({ frames := 3, cells := 0, slots := 0, locals := 78 } : Room) s m ([.ref a_this, .int p1, .int p2, .int p3, .int p4] : List Value).toArray below meth c H locs 0 0 Q (F0 m 105 ls []) := by
                intro fuel
                induction fuel with
                | zero => intro o_this_L105 r_this_bytes_L105 x6 H locs ls hm; exact absurd hm (Nat.not_lt_zero _)
                | succ fuel ih =>
                  intro o_this_L105 r_this_bytes_L105 x6 H locs ls hm  hP hD hS hl hF hs
                  rw [f_X8_doStrings_L105bbbbbbb] at hF
                  rw [s_X8_doStrings_L105bbbbbbb] at hs
                  skip
                  refine lv_iload hx hb dX8_doStrings_105 (lv_at hl 0 rfl) ?_
                  refine lv_iload hx hb dX8_doStrings_107 (lv_at hl 1 rfl) ?_
                  refine lv_icmp_ge (tgt := 213) hx hb dX8_doStrings_109 (by decide) (fun c_119 => ?_) (fun c_119 => ?_)
                  · skip
                    rw [if_pos c_119] at hF
                    rw [if_pos c_119] at hs
                    exact hQ (o_this_L105, r_this_bytes_L105, r_this_one, r_this_two) _ _ _ _ dX8_doStrings_213 hF.symm hP hD hS
                  · skip
                    rw [if_neg c_119] at hF
                    rw [if_neg c_119] at hs
                    refine lv_iload_n hx hb dX8_doStrings_112 rfl (lv_at hl 3 rfl) ?_
                    refine lv_sipush (v := 210) hx hb dX8_doStrings_113 (by decide) ?_
                    refine lv_icmp_ne (tgt := 141) hx hb dX8_doStrings_116 (by decide) (fun c_120 => ?_) (fun c_120 => ?_)
                    · skip
                      rw [if_neg c_120] at hF
                      rw [if_neg c_120] at hs
                      refine lv_iload_n hx hb dX8_doStrings_141 rfl (lv_at hl 3 rfl) ?_
                      refine lv_sipush (v := 220) hx hb dX8_doStrings_142 (by decide) ?_
                      refine lv_icmp_ne (tgt := 177) hx hb dX8_doStrings_145 (by decide) (fun c_121 => ?_) (fun c_121 => ?_)
                      · skip
                        rw [if_neg c_121] at hF
                        rw [if_neg c_121] at hs
                        refine lv_aload_n hx hb dX8_doStrings_177 rfl (lv_at hl 2 rfl) ?_
                        refine gf_X8_52 (v := .int o_this_L105.2.2.1) hx hb hown ht hK hP 0 rfl rfl dX8_doStrings_178 ?_
                        refine lv_if_ne (tgt := 207) hx hb dX8_doStrings_181 (by decide) (fun c_122 => ?_) (fun c_122 => ?_)
                        · skip
                          rw [if_neg c_122] at hF
                          rw [if_neg c_122] at hs
                          refine lv_iinc (v := (x6 + (1 : Int32))) (lv' := [(6, .int (x6 + (1 : Int32))), (5, .int (p2 + (1 : Int32))), (0, .ref a_this), (1, .int p1), (2, .int p2), (3, .int p3), (4, .int p4)]) hx hb dX8_doStrings_207 hl (k := 0) rfl rfl (by decide) rfl (fun ls hl => ?_)
                          refine lv_goto (tgt := 105) hx hb dX8_doStrings_210 (by decide) ?_
                          exact ih o_this_L105 r_this_bytes_L105 (x6 + (1 : Int32)) _ _ _ (by first | exact q_up hm c_1 | exact q_up hm c_2 | exact q_up hm c_69 | exact q_up hm c_70 | exact q_up hm c_103 | exact q_up hm c_104 | exact q_up hm c_119 | exact q_up hm c_120 | exact q_up hm c_121 | exact q_up hm c_122)  hP hD hS (lv_sub hl [0, 1, 2, 3, 4, 5, 6] rfl) hF hs
                        · skip
                          rw [if_pos c_122] at hF
                          rw [if_pos c_122] at hs
                          refine lv_aload_n hx hb dX8_doStrings_184 rfl (lv_at hl 2 rfl) ?_
                          refine lv_aload_n hx hb dX8_doStrings_185 rfl (lv_at hl 2 rfl) ?_
                          refine gf_X8_7 (v := .ref a_this_bytes) hx hb hown ht hK hP 0 rfl rfl dX8_doStrings_186 ?_
                          refine lv_iload_n hx hb dX8_doStrings_189 rfl (lv_at hl 5 rfl) ?_
                          refine lv_iload hx hb dX8_doStrings_190 (lv_at hl 0 rfl) ?_
                          refine lv_iadd hx hb dX8_doStrings_192 ?_
                          obtain ⟨hi_123, hs⟩ := hs
                          refine va_iald hx hb hK hP 1 0 rfl rfl hi_123 dX8_doStrings_193 ?_
                          refine lv_aload_n hx hb dX8_doStrings_194 rfl (lv_at hl 2 rfl) ?_
                          refine gf_X8_7 (v := .ref a_this_bytes) hx hb hown ht hK hP 0 rfl rfl dX8_doStrings_195 ?_
                          refine lv_iload hx hb dX8_doStrings_198 (lv_at hl 6 rfl) ?_
                          refine lv_iload hx hb dX8_doStrings_200 (lv_at hl 0 rfl) ?_
                          refine lv_iadd hx hb dX8_doStrings_202 ?_
                          obtain ⟨hi_124, hs⟩ := hs
                          refine va_iald hx hb hK hP 1 0 rfl rfl hi_124 dX8_doStrings_203 ?_
                          refine q_Vv (rest := []) (c_X8_compared l D a_this a_this_bytes a_this_keys a_this_reg a_this_card a_this_filled a_this_taken a_this_line a_this_one a_this_two o_this_L105 (r_this_bytes_L105 (p3 + x6).toNatClampNeg) (r_this_bytes_L105 (p4 + x6).toNatClampNeg)) cv_X8_compared hx hb hml hown ht hN hK hA hP hD hS hl.1 (km_X8_131) ⟨Nat.le_of_ble_eq_true rfl, Nat.le_of_ble_eq_true rfl⟩ rfl rfl [0] (by decide) rfl [] rfl (fun _ => rfl) (ci := 8) rfl rfl rfl rfl rfl (Nat.le_of_ble_eq_true rfl) dX8_doStrings_204 ⟨Nat.zero_le _, Nat.zero_le _⟩ (fun w_125 H locs hw hP hD hS => ?_)
                          have hP : va_P D vwCl [(a_this, oX8 a_this_bytes a_this_keys a_this_reg a_this_card a_this_filled a_this_taken a_this_line a_this_one a_this_two w_125), (a_this_bytes, .inl (k_this_bytes, 2048, .inl r_this_bytes_L105)), (a_this_keys, .inl (k_this_keys, 8, .inl r_this_keys)), (a_this_one, .inl (k_this_one, 40, .inl r_this_one)), (a_this_two, .inl (k_this_two, 40, .inl r_this_two))] H := hP
                          have hD : va_D A [(a_this, oX8 a_this_bytes a_this_keys a_this_reg a_this_card a_this_filled a_this_taken a_this_line a_this_one a_this_two w_125), (a_this_bytes, .inl (k_this_bytes, 2048, .inl r_this_bytes_L105)), (a_this_keys, .inl (k_this_keys, 8, .inl r_this_keys)), (a_this_one, .inl (k_this_one, 40, .inl r_this_one)), (a_this_two, .inl (k_this_two, 40, .inl r_this_two))] := hD
                          rw [q_let_of hw] at hF
                          rw [q_let_of hw] at hs
                          refine lv_iinc (v := (x6 + (1 : Int32))) (lv' := [(6, .int (x6 + (1 : Int32))), (5, .int (p2 + (1 : Int32))), (0, .ref a_this), (1, .int p1), (2, .int p2), (3, .int p3), (4, .int p4)]) hx hb dX8_doStrings_207 hl (k := 0) rfl rfl (by decide) rfl (fun ls hl => ?_)
                          refine lv_goto (tgt := 105) hx hb dX8_doStrings_210 (by decide) ?_
                          exact ih w_125 r_this_bytes_L105 (x6 + (1 : Int32)) _ _ _ (by first | exact q_up hm c_1 | exact q_up hm c_2 | exact q_up hm c_69 | exact q_up hm c_70 | exact q_up hm c_103 | exact q_up hm c_104 | exact q_up hm c_119 | exact q_up hm c_120 | exact q_up hm c_121 | exact q_up hm c_122)  hP hD hS (lv_sub hl [0, 1, 2, 3, 4, 5, 6] rfl) hF hs
                      · skip
                        rw [if_pos c_121] at hF
                        rw [if_pos c_121] at hs
                        refine lv_aload_n hx hb dX8_doStrings_148 rfl (lv_at hl 2 rfl) ?_
                        refine gf_X8_7 (v := .ref a_this_bytes) hx hb hown ht hK hP 0 rfl rfl dX8_doStrings_149 ?_
                        refine lv_iload_n hx hb dX8_doStrings_152 rfl (lv_at hl 5 rfl) ?_
                        refine lv_iload hx hb dX8_doStrings_153 (lv_at hl 0 rfl) ?_
                        refine lv_iadd hx hb dX8_doStrings_155 ?_
                        refine lv_aload_n hx hb dX8_doStrings_156 rfl (lv_at hl 2 rfl) ?_
                        refine gf_X8_7 (v := .ref a_this_bytes) hx hb hown ht hK hP 0 rfl rfl dX8_doStrings_157 ?_
                        refine lv_iload hx hb dX8_doStrings_160 (lv_at hl 6 rfl) ?_
                        refine lv_aload_n hx hb dX8_doStrings_162 rfl (lv_at hl 2 rfl) ?_
                        refine gf_X8_7 (v := .ref a_this_bytes) hx hb hown ht hK hP 0 rfl rfl dX8_doStrings_163 ?_
                        refine lv_iload_n hx hb dX8_doStrings_166 rfl (lv_at hl 5 rfl) ?_
                        refine lv_iload hx hb dX8_doStrings_167 (lv_at hl 0 rfl) ?_
                        refine lv_iadd hx hb dX8_doStrings_169 ?_
                        obtain ⟨hi_126, hs⟩ := hs
                        refine va_iald hx hb hK hP 1 0 rfl rfl hi_126 dX8_doStrings_170 ?_
                        refine lv_iadd hx hb dX8_doStrings_171 ?_
                        obtain ⟨hi_127, hs⟩ := hs
                        refine va_iald hx hb hK hP 1 0 rfl rfl hi_127 dX8_doStrings_172 ?_
                        obtain ⟨hi_128, hs⟩ := hs
                        refine va_iast hx hb hK hP hD hS 1 0 rfl rfl hi_128 dX8_doStrings_173 (fun H locs hP hD hS => ?_)
                        have hP : va_P D vwCl [(a_this, oX8 a_this_bytes a_this_keys a_this_reg a_this_card a_this_filled a_this_taken a_this_line a_this_one a_this_two o_this_L105), (a_this_bytes, .inl (k_this_bytes, 2048, .inl (upd r_this_bytes_L105 (p3 + x6).toNatClampNeg (r_this_bytes_L105 (p4 + (r_this_bytes_L105 (p3 + x6).toNatClampNeg)).toNatClampNeg)))), (a_this_keys, .inl (k_this_keys, 8, .inl r_this_keys)), (a_this_one, .inl (k_this_one, 40, .inl r_this_one)), (a_this_two, .inl (k_this_two, 40, .inl r_this_two))] H := hP
                        have hD : va_D A [(a_this, oX8 a_this_bytes a_this_keys a_this_reg a_this_card a_this_filled a_this_taken a_this_line a_this_one a_this_two o_this_L105), (a_this_bytes, .inl (k_this_bytes, 2048, .inl (upd r_this_bytes_L105 (p3 + x6).toNatClampNeg (r_this_bytes_L105 (p4 + (r_this_bytes_L105 (p3 + x6).toNatClampNeg)).toNatClampNeg)))), (a_this_keys, .inl (k_this_keys, 8, .inl r_this_keys)), (a_this_one, .inl (k_this_one, 40, .inl r_this_one)), (a_this_two, .inl (k_this_two, 40, .inl r_this_two))] := hD
                        refine lv_goto (tgt := 207) hx hb dX8_doStrings_174 (by decide) ?_
                        refine lv_iinc (v := (x6 + (1 : Int32))) (lv' := [(6, .int (x6 + (1 : Int32))), (5, .int (p2 + (1 : Int32))), (0, .ref a_this), (1, .int p1), (2, .int p2), (3, .int p3), (4, .int p4)]) hx hb dX8_doStrings_207 hl (k := 0) rfl rfl (by decide) rfl (fun ls hl => ?_)
                        refine lv_goto (tgt := 105) hx hb dX8_doStrings_210 (by decide) ?_
                        exact ih o_this_L105 (upd r_this_bytes_L105 (p3 + x6).toNatClampNeg (r_this_bytes_L105 (p4 + (r_this_bytes_L105 (p3 + x6).toNatClampNeg)).toNatClampNeg)) (x6 + (1 : Int32)) _ _ _ (by first | exact q_up hm c_1 | exact q_up hm c_2 | exact q_up hm c_69 | exact q_up hm c_70 | exact q_up hm c_103 | exact q_up hm c_104 | exact q_up hm c_119 | exact q_up hm c_120 | exact q_up hm c_121)  hP hD hS (lv_sub hl [0, 1, 2, 3, 4, 5, 6] rfl) hF hs
                    · skip
                      rw [if_pos c_120] at hF
                      rw [if_pos c_120] at hs
                      refine lv_aload_n hx hb dX8_doStrings_119 rfl (lv_at hl 2 rfl) ?_
                      refine gf_X8_7 (v := .ref a_this_bytes) hx hb hown ht hK hP 0 rfl rfl dX8_doStrings_120 ?_
                      refine lv_iload_n hx hb dX8_doStrings_123 rfl (lv_at hl 5 rfl) ?_
                      refine lv_iload hx hb dX8_doStrings_124 (lv_at hl 0 rfl) ?_
                      refine lv_iadd hx hb dX8_doStrings_126 ?_
                      refine lv_aload_n hx hb dX8_doStrings_127 rfl (lv_at hl 2 rfl) ?_
                      refine gf_X8_7 (v := .ref a_this_bytes) hx hb hown ht hK hP 0 rfl rfl dX8_doStrings_128 ?_
                      refine lv_iload hx hb dX8_doStrings_131 (lv_at hl 6 rfl) ?_
                      refine lv_iload hx hb dX8_doStrings_133 (lv_at hl 0 rfl) ?_
                      refine lv_iadd hx hb dX8_doStrings_135 ?_
                      obtain ⟨hi_129, hs⟩ := hs
                      refine va_iald hx hb hK hP 1 0 rfl rfl hi_129 dX8_doStrings_136 ?_
                      obtain ⟨hi_130, hs⟩ := hs
                      refine va_iast hx hb hK hP hD hS 1 0 rfl rfl hi_130 dX8_doStrings_137 (fun H locs hP hD hS => ?_)
                      have hP : va_P D vwCl [(a_this, oX8 a_this_bytes a_this_keys a_this_reg a_this_card a_this_filled a_this_taken a_this_line a_this_one a_this_two o_this_L105), (a_this_bytes, .inl (k_this_bytes, 2048, .inl (upd r_this_bytes_L105 (p3 + x6).toNatClampNeg (r_this_bytes_L105 (p4 + x6).toNatClampNeg)))), (a_this_keys, .inl (k_this_keys, 8, .inl r_this_keys)), (a_this_one, .inl (k_this_one, 40, .inl r_this_one)), (a_this_two, .inl (k_this_two, 40, .inl r_this_two))] H := hP
                      have hD : va_D A [(a_this, oX8 a_this_bytes a_this_keys a_this_reg a_this_card a_this_filled a_this_taken a_this_line a_this_one a_this_two o_this_L105), (a_this_bytes, .inl (k_this_bytes, 2048, .inl (upd r_this_bytes_L105 (p3 + x6).toNatClampNeg (r_this_bytes_L105 (p4 + x6).toNatClampNeg)))), (a_this_keys, .inl (k_this_keys, 8, .inl r_this_keys)), (a_this_one, .inl (k_this_one, 40, .inl r_this_one)), (a_this_two, .inl (k_this_two, 40, .inl r_this_two))] := hD
                      refine lv_goto (tgt := 207) hx hb dX8_doStrings_138 (by decide) ?_
                      refine lv_iinc (v := (x6 + (1 : Int32))) (lv' := [(6, .int (x6 + (1 : Int32))), (5, .int (p2 + (1 : Int32))), (0, .ref a_this), (1, .int p1), (2, .int p2), (3, .int p3), (4, .int p4)]) hx hb dX8_doStrings_207 hl (k := 0) rfl rfl (by decide) rfl (fun ls hl => ?_)
                      refine lv_goto (tgt := 105) hx hb dX8_doStrings_210 (by decide) ?_
                      exact ih o_this_L105 (upd r_this_bytes_L105 (p3 + x6).toNatClampNeg (r_this_bytes_L105 (p4 + x6).toNatClampNeg)) (x6 + (1 : Int32)) _ _ _ (by first | exact q_up hm c_1 | exact q_up hm c_2 | exact q_up hm c_69 | exact q_up hm c_70 | exact q_up hm c_103 | exact q_up hm c_104 | exact q_up hm c_119 | exact q_up hm c_120)  hP hD hS (lv_sub hl [0, 1, 2, 3, 4, 5, 6] rfl) hF hs
              exact L105 ((((p2 + (1 : Int32)) : Int32).toInt - (0 : Int32).toInt).toNat + 1) (w_102.2.1, w_102.2.2.1, 0, w_102.2.2.2.2.1, w_102.2.2.2.2.2.1, w_102.2.2.2.2.2.2.1, w_102.2.2.2.2.2.2.2.1, w_102.2.2.2.2.2.2.2.2.1, w_102.2.2.2.2.2.2.2.2.2.1, w_102.2.2.2.2.2.2.2.2.2.2.1, w_102.2.2.2.2.2.2.2.2.2.2.2.1, w_102.2.2.2.2.2.2.2.2.2.2.2.2.1, w_102.2.2.2.2.2.2.2.2.2.2.2.2.2.1, w_102.2.2.2.2.2.2.2.2.2.2.2.2.2.2.1, w_102.2.2.2.2.2.2.2.2.2.2.2.2.2.2.2.1, w_102.2.2.2.2.2.2.2.2.2.2.2.2.2.2.2.2.1, w_102.2.2.2.2.2.2.2.2.2.2.2.2.2.2.2.2.2.1, w_102.2.2.2.2.2.2.2.2.2.2.2.2.2.2.2.2.2.2.1, w_102.2.2.2.2.2.2.2.2.2.2.2.2.2.2.2.2.2.2.2.1, w_102.2.2.2.2.2.2.2.2.2.2.2.2.2.2.2.2.2.2.2.2.1, w_102.2.2.2.2.2.2.2.2.2.2.2.2.2.2.2.2.2.2.2.2.2.1, w_102.2.2.2.2.2.2.2.2.2.2.2.2.2.2.2.2.2.2.2.2.2.2.1, w_102.2.2.2.2.2.2.2.2.2.2.2.2.2.2.2.2.2.2.2.2.2.2.2.1, w_102.2.2.2.2.2.2.2.2.2.2.2.2.2.2.2.2.2.2.2.2.2.2.2.2.1, w_102.2.2.2.2.2.2.2.2.2.2.2.2.2.2.2.2.2.2.2.2.2.2.2.2.2) r_this_bytes 0 _ _ _ (Nat.lt_succ_self _)  hP hD hS (lv_sub hl [0, 1, 2, 3, 4, 5, 6] rfl) hF hs
          · have c_103 : ¬ w_102.1 = true := by rw [(bI_eq0 _).mp c_103]; decide
            rw [if_neg c_103] at hF
            rw [if_neg c_103] at hs
            exact hQ (w_102.2, r_this_bytes, r_this_one, r_this_two) _ _ _ _ dX8_doStrings_82 hF.symm hP hD hS
  · skip
    rw [if_neg c_1] at hF
    rw [if_neg c_1] at hs
    refine lv_aload_n hx hb dX8_doStrings_7 rfl (lv_at hl 0 rfl) ?_
    refine lv_iload_n hx hb dX8_doStrings_8 rfl (lv_at hl 1 rfl) ?_
    refine lv_iload_n hx hb dX8_doStrings_9 rfl (lv_at hl 3 rfl) ?_
    refine lv_iload_n hx hb dX8_doStrings_10 rfl (lv_at hl 2 rfl) ?_
    refine lv_bipush (v := 16) hx hb dX8_doStrings_11 (by decide) ?_
    refine lv_idiv hx hb dX8_doStrings_13 (by decide) ?_
    refine lv_iconst (v := 1) hx hb dX8_doStrings_14 (by decide) ?_
    refine lv_iadd hx hb dX8_doStrings_15 ?_
    refine lv_iload hx hb dX8_doStrings_16 (lv_at hl 4 rfl) ?_
    refine lv_iload_n hx hb dX8_doStrings_18 rfl (lv_at hl 2 rfl) ?_
    refine lv_bipush (v := 16) hx hb dX8_doStrings_19 (by decide) ?_
    refine lv_irem hx hb dX8_doStrings_21 (by decide) ?_
    refine lv_iconst (v := 1) hx hb dX8_doStrings_22 (by decide) ?_
    refine lv_iadd hx hb dX8_doStrings_23 ?_
    have hi_131 := hs
    refine q_Vv (rest := []) (c_X8_decimal l D a_this a_this_bytes a_this_keys a_this_one a_this_two a_this_reg a_this_card a_this_filled a_this_taken a_this_line k_this_bytes k_this_keys k_this_one k_this_two o_this r_this_bytes r_this_keys r_this_one r_this_two p1 p3 ((p2 / (16 : Int32)) + (1 : Int32)) p4 ((p2 - p2 / (16 : Int32) * (16 : Int32)) + (1 : Int32)) hi_131) cv_X8_decimal hx hb hml hown ht hN hK hA hP hD hS hl.1 (km_X8_199) ⟨Nat.le_of_ble_eq_true rfl, Nat.le_of_ble_eq_true rfl⟩ rfl rfl [0, 1, 2, 3, 4] (by decide) rfl [0, 1, 2, 3] rfl (fun _ => rfl) (ci := 8) rfl rfl rfl rfl rfl (Nat.le_of_ble_eq_true rfl) dX8_doStrings_24 ⟨Nat.zero_le _, Nat.zero_le _⟩ (fun w_132 H locs hw hP hD hS => ?_)
    have hP : va_P D vwCl [(a_this, oX8 a_this_bytes a_this_keys a_this_reg a_this_card a_this_filled a_this_taken a_this_line a_this_one a_this_two w_132.1), (a_this_bytes, .inl (k_this_bytes, 2048, .inl w_132.2.1)), (a_this_keys, .inl (k_this_keys, 8, .inl r_this_keys)), (a_this_one, .inl (k_this_one, 40, .inl w_132.2.2.1)), (a_this_two, .inl (k_this_two, 40, .inl w_132.2.2.2))] H := hP
    have hD : va_D A [(a_this, oX8 a_this_bytes a_this_keys a_this_reg a_this_card a_this_filled a_this_taken a_this_line a_this_one a_this_two w_132.1), (a_this_bytes, .inl (k_this_bytes, 2048, .inl w_132.2.1)), (a_this_keys, .inl (k_this_keys, 8, .inl r_this_keys)), (a_this_one, .inl (k_this_one, 40, .inl w_132.2.2.1)), (a_this_two, .inl (k_this_two, 40, .inl w_132.2.2.2))] := hD
    rw [q_let_of hw] at hF
    exact hQ (w_132.1, w_132.2.1, w_132.2.2.1, w_132.2.2.2) _ _ _ _ dX8_doStrings_27 hF.symm hP hD hS
theorem cv_X8_doStrings : qV yX8_doStrings cX8_doStrings 7 none 4 := ⟨kc_X8_doStrings, kt_X8_doStrings, ks_X8_doStrings, kn_X8, by decide, by decide +kernel⟩
