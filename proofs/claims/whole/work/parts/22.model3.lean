
def f_X8_doIndexed (o_this : Int32 × Int32 × Int32 × Int32 × Bool × Bool × Int32 × Int32 × Int32 × Int32 × Bool × Bool × Bool × Int32 × Int32 × Int32 × Int32 × Int32 × Int32 × Int32 × Int32 × Int32 × Int32 × Int32 × Int32) (r_this_bytes : Nat → Int32) (r_this_keys : Nat → Int32) (r_this_one : Nat → Int32) (r_this_reg : Nat → Int32) (p1 : Int32) (p2 : Int32) (p3 : Int32) : (Int32 × Int32 × Int32 × Int32 × Bool × Bool × Int32 × Int32 × Int32 × Int32 × Bool × Bool × Bool × Int32 × Int32 × Int32 × Int32 × Int32 × Int32 × Int32 × Int32 × Int32 × Int32 × Int32 × Int32) × (Nat → Int32) × (Nat → Int32) × (Nat → Int32) := (if (f_X8_sizeOf p1) ≤ 0 then (if (f_X8_sizeOf p1) = (4 : Int32) then (if (79 : Int32) < p1 then (q_let (f_X8_numbers o_this r_this_bytes r_this_reg p1 p2 p3 (f_X8_field r_this_bytes p3 4)) fun w_80 => (w_80.1, w_80.2.1, r_this_one, w_80.2.2)) else (if (f_X8_sizeOf p1) = (2 : Int32) then (q_let (f_X8_numbers o_this r_this_bytes r_this_reg p1 p2 p3 (f_X8_field r_this_bytes p3 4)) fun w_99 => (w_99.1, w_99.2.1, r_this_one, w_99.2.2)) else (if p1 = (66 : Int32) then (o_this, (upd r_this_bytes p3.toNatClampNeg ((r_this_reg p2.toNatClampNeg) &&& (255 : Int32))), r_this_one, r_this_reg) else (if p1 = (67 : Int32) then (o_this, r_this_bytes, r_this_one, (upd r_this_reg p2.toNatClampNeg (((r_this_reg p2.toNatClampNeg) &&& ((-256) : Int32)) + (f_X8_field r_this_bytes p3 4)))) else (if (f_X8_sizeOf p1) = 0 then (q_let (f_X8_ways o_this r_this_reg p1 p2 p3) fun w_93 => (w_93.1, r_this_bytes, r_this_one, w_93.2)) else (if p1 = (79 : Int32) then (q_let (f_X8_toBinary o_this r_this_bytes r_this_one r_this_reg p2 p3) fun w_91 => (w_91.1, r_this_bytes, w_91.2.1, w_91.2.2)) else (q_let (f_X8_spread r_this_one (r_this_reg p2.toNatClampNeg)) fun w_87 => (q_let (f_X8_store r_this_bytes w_87 p3 8) fun w_89 => (o_this, w_89, w_87, r_this_reg))))))))) else (if (f_X8_sizeOf p1) = (2 : Int32) then (if (79 : Int32) < p1 then (q_let (f_X8_numbers o_this r_this_bytes r_this_reg p1 p2 p3 (f_X8_signed (f_X8_field r_this_bytes p3 2))) fun w_56 => (w_56.1, w_56.2.1, r_this_one, w_56.2.2)) else (if (f_X8_sizeOf p1) = (2 : Int32) then (q_let (f_X8_numbers o_this r_this_bytes r_this_reg p1 p2 p3 (f_X8_signed (f_X8_field r_this_bytes p3 2))) fun w_75 => (w_75.1, w_75.2.1, r_this_one, w_75.2.2)) else (if p1 = (66 : Int32) then (o_this, (upd r_this_bytes p3.toNatClampNeg ((r_this_reg p2.toNatClampNeg) &&& (255 : Int32))), r_this_one, r_this_reg) else (if p1 = (67 : Int32) then (o_this, r_this_bytes, r_this_one, (upd r_this_reg p2.toNatClampNeg (((r_this_reg p2.toNatClampNeg) &&& ((-256) : Int32)) + (f_X8_signed (f_X8_field r_this_bytes p3 2))))) else (if (f_X8_sizeOf p1) = 0 then (q_let (f_X8_ways o_this r_this_reg p1 p2 p3) fun w_69 => (w_69.1, r_this_bytes, r_this_one, w_69.2)) else (if p1 = (79 : Int32) then (q_let (f_X8_toBinary o_this r_this_bytes r_this_one r_this_reg p2 p3) fun w_67 => (w_67.1, r_this_bytes, w_67.2.1, w_67.2.2)) else (q_let (f_X8_spread r_this_one (r_this_reg p2.toNatClampNeg)) fun w_63 => (q_let (f_X8_store r_this_bytes w_63 p3 8) fun w_65 => (o_this, w_65, w_63, r_this_reg))))))))) else (if (f_X8_sizeOf p1) = (1 : Int32) then (if (79 : Int32) < p1 then (q_let (f_X8_numbers o_this r_this_bytes r_this_reg p1 p2 p3 (r_this_bytes p3.toNatClampNeg)) fun w_31 => (w_31.1, w_31.2.1, r_this_one, w_31.2.2)) else (if (f_X8_sizeOf p1) = (2 : Int32) then (q_let (f_X8_numbers o_this r_this_bytes r_this_reg p1 p2 p3 (r_this_bytes p3.toNatClampNeg)) fun w_50 => (w_50.1, w_50.2.1, r_this_one, w_50.2.2)) else (if p1 = (66 : Int32) then (o_this, (upd r_this_bytes p3.toNatClampNeg ((r_this_reg p2.toNatClampNeg) &&& (255 : Int32))), r_this_one, r_this_reg) else (if p1 = (67 : Int32) then (o_this, r_this_bytes, r_this_one, (upd r_this_reg p2.toNatClampNeg (((r_this_reg p2.toNatClampNeg) &&& ((-256) : Int32)) + (r_this_bytes p3.toNatClampNeg)))) else (if (f_X8_sizeOf p1) = 0 then (q_let (f_X8_ways o_this r_this_reg p1 p2 p3) fun w_44 => (w_44.1, r_this_bytes, r_this_one, w_44.2)) else (if p1 = (79 : Int32) then (q_let (f_X8_toBinary o_this r_this_bytes r_this_one r_this_reg p2 p3) fun w_42 => (w_42.1, r_this_bytes, w_42.2.1, w_42.2.2)) else (q_let (f_X8_spread r_this_one (r_this_reg p2.toNatClampNeg)) fun w_38 => (q_let (f_X8_store r_this_bytes w_38 p3 8) fun w_40 => (o_this, w_40, w_38, r_this_reg))))))))) else (if (79 : Int32) < p1 then (q_let (f_X8_numbers o_this r_this_bytes r_this_reg p1 p2 p3 0) fun w_8 => (w_8.1, w_8.2.1, r_this_one, w_8.2.2)) else (if (f_X8_sizeOf p1) = (2 : Int32) then (q_let (f_X8_numbers o_this r_this_bytes r_this_reg p1 p2 p3 0) fun w_27 => (w_27.1, w_27.2.1, r_this_one, w_27.2.2)) else (if p1 = (66 : Int32) then (o_this, (upd r_this_bytes p3.toNatClampNeg ((r_this_reg p2.toNatClampNeg) &&& (255 : Int32))), r_this_one, r_this_reg) else (if p1 = (67 : Int32) then (o_this, r_this_bytes, r_this_one, (upd r_this_reg p2.toNatClampNeg (((r_this_reg p2.toNatClampNeg) &&& ((-256) : Int32)) + (0 : Int32)))) else (if (f_X8_sizeOf p1) = 0 then (q_let (f_X8_ways o_this r_this_reg p1 p2 p3) fun w_21 => (w_21.1, r_this_bytes, r_this_one, w_21.2)) else (if p1 = (79 : Int32) then (q_let (f_X8_toBinary o_this r_this_bytes r_this_one r_this_reg p2 p3) fun w_19 => (w_19.1, r_this_bytes, w_19.2.1, w_19.2.2)) else (q_let (f_X8_spread r_this_one (r_this_reg p2.toNatClampNeg)) fun w_15 => (q_let (f_X8_store r_this_bytes w_15 p3 8) fun w_17 => (o_this, w_17, w_15, r_this_reg)))))))))))) else (q_let (f_X8_good o_this r_this_keys p3 (f_X8_sizeOf p1) (f_X8_sizeOf p1) (f_X8_among p1 64 66 78 80)) fun w_102 => (if w_102.1 = true then (if (f_X8_sizeOf p1) = (4 : Int32) then (if (79 : Int32) < p1 then (q_let (f_X8_numbers w_102.2 r_this_bytes r_this_reg p1 p2 p3 (f_X8_field r_this_bytes p3 4)) fun w_181 => (w_181.1, w_181.2.1, r_this_one, w_181.2.2)) else (if (f_X8_sizeOf p1) = (2 : Int32) then (q_let (f_X8_numbers w_102.2 r_this_bytes r_this_reg p1 p2 p3 (f_X8_field r_this_bytes p3 4)) fun w_200 => (w_200.1, w_200.2.1, r_this_one, w_200.2.2)) else (if p1 = (66 : Int32) then (w_102.2, (upd r_this_bytes p3.toNatClampNeg ((r_this_reg p2.toNatClampNeg) &&& (255 : Int32))), r_this_one, r_this_reg) else (if p1 = (67 : Int32) then (w_102.2, r_this_bytes, r_this_one, (upd r_this_reg p2.toNatClampNeg (((r_this_reg p2.toNatClampNeg) &&& ((-256) : Int32)) + (f_X8_field r_this_bytes p3 4)))) else (if (f_X8_sizeOf p1) = 0 then (q_let (f_X8_ways w_102.2 r_this_reg p1 p2 p3) fun w_194 => (w_194.1, r_this_bytes, r_this_one, w_194.2)) else (if p1 = (79 : Int32) then (q_let (f_X8_toBinary w_102.2 r_this_bytes r_this_one r_this_reg p2 p3) fun w_192 => (w_192.1, r_this_bytes, w_192.2.1, w_192.2.2)) else (q_let (f_X8_spread r_this_one (r_this_reg p2.toNatClampNeg)) fun w_188 => (q_let (f_X8_store r_this_bytes w_188 p3 8) fun w_190 => (w_102.2, w_190, w_188, r_this_reg))))))))) else (if (f_X8_sizeOf p1) = (2 : Int32) then (if (79 : Int32) < p1 then (q_let (f_X8_numbers w_102.2 r_this_bytes r_this_reg p1 p2 p3 (f_X8_signed (f_X8_field r_this_bytes p3 2))) fun w_157 => (w_157.1, w_157.2.1, r_this_one, w_157.2.2)) else (if (f_X8_sizeOf p1) = (2 : Int32) then (q_let (f_X8_numbers w_102.2 r_this_bytes r_this_reg p1 p2 p3 (f_X8_signed (f_X8_field r_this_bytes p3 2))) fun w_176 => (w_176.1, w_176.2.1, r_this_one, w_176.2.2)) else (if p1 = (66 : Int32) then (w_102.2, (upd r_this_bytes p3.toNatClampNeg ((r_this_reg p2.toNatClampNeg) &&& (255 : Int32))), r_this_one, r_this_reg) else (if p1 = (67 : Int32) then (w_102.2, r_this_bytes, r_this_one, (upd r_this_reg p2.toNatClampNeg (((r_this_reg p2.toNatClampNeg) &&& ((-256) : Int32)) + (f_X8_signed (f_X8_field r_this_bytes p3 2))))) else (if (f_X8_sizeOf p1) = 0 then (q_let (f_X8_ways w_102.2 r_this_reg p1 p2 p3) fun w_170 => (w_170.1, r_this_bytes, r_this_one, w_170.2)) else (if p1 = (79 : Int32) then (q_let (f_X8_toBinary w_102.2 r_this_bytes r_this_one r_this_reg p2 p3) fun w_168 => (w_168.1, r_this_bytes, w_168.2.1, w_168.2.2)) else (q_let (f_X8_spread r_this_one (r_this_reg p2.toNatClampNeg)) fun w_164 => (q_let (f_X8_store r_this_bytes w_164 p3 8) fun w_166 => (w_102.2, w_166, w_164, r_this_reg))))))))) else (if (f_X8_sizeOf p1) = (1 : Int32) then (if (79 : Int32) < p1 then (q_let (f_X8_numbers w_102.2 r_this_bytes r_this_reg p1 p2 p3 (r_this_bytes p3.toNatClampNeg)) fun w_132 => (w_132.1, w_132.2.1, r_this_one, w_132.2.2)) else (if (f_X8_sizeOf p1) = (2 : Int32) then (q_let (f_X8_numbers w_102.2 r_this_bytes r_this_reg p1 p2 p3 (r_this_bytes p3.toNatClampNeg)) fun w_151 => (w_151.1, w_151.2.1, r_this_one, w_151.2.2)) else (if p1 = (66 : Int32) then (w_102.2, (upd r_this_bytes p3.toNatClampNeg ((r_this_reg p2.toNatClampNeg) &&& (255 : Int32))), r_this_one, r_this_reg) else (if p1 = (67 : Int32) then (w_102.2, r_this_bytes, r_this_one, (upd r_this_reg p2.toNatClampNeg (((r_this_reg p2.toNatClampNeg) &&& ((-256) : Int32)) + (r_this_bytes p3.toNatClampNeg)))) else (if (f_X8_sizeOf p1) = 0 then (q_let (f_X8_ways w_102.2 r_this_reg p1 p2 p3) fun w_145 => (w_145.1, r_this_bytes, r_this_one, w_145.2)) else (if p1 = (79 : Int32) then (q_let (f_X8_toBinary w_102.2 r_this_bytes r_this_one r_this_reg p2 p3) fun w_143 => (w_143.1, r_this_bytes, w_143.2.1, w_143.2.2)) else (q_let (f_X8_spread r_this_one (r_this_reg p2.toNatClampNeg)) fun w_139 => (q_let (f_X8_store r_this_bytes w_139 p3 8) fun w_141 => (w_102.2, w_141, w_139, r_this_reg))))))))) else (if (79 : Int32) < p1 then (q_let (f_X8_numbers w_102.2 r_this_bytes r_this_reg p1 p2 p3 0) fun w_109 => (w_109.1, w_109.2.1, r_this_one, w_109.2.2)) else (if (f_X8_sizeOf p1) = (2 : Int32) then (q_let (f_X8_numbers w_102.2 r_this_bytes r_this_reg p1 p2 p3 0) fun w_128 => (w_128.1, w_128.2.1, r_this_one, w_128.2.2)) else (if p1 = (66 : Int32) then (w_102.2, (upd r_this_bytes p3.toNatClampNeg ((r_this_reg p2.toNatClampNeg) &&& (255 : Int32))), r_this_one, r_this_reg) else (if p1 = (67 : Int32) then (w_102.2, r_this_bytes, r_this_one, (upd r_this_reg p2.toNatClampNeg (((r_this_reg p2.toNatClampNeg) &&& ((-256) : Int32)) + (0 : Int32)))) else (if (f_X8_sizeOf p1) = 0 then (q_let (f_X8_ways w_102.2 r_this_reg p1 p2 p3) fun w_122 => (w_122.1, r_this_bytes, r_this_one, w_122.2)) else (if p1 = (79 : Int32) then (q_let (f_X8_toBinary w_102.2 r_this_bytes r_this_one r_this_reg p2 p3) fun w_120 => (w_120.1, r_this_bytes, w_120.2.1, w_120.2.2)) else (q_let (f_X8_spread r_this_one (r_this_reg p2.toNatClampNeg)) fun w_116 => (q_let (f_X8_store r_this_bytes w_116 p3 8) fun w_118 => (w_102.2, w_118, w_116, r_this_reg)))))))))))) else (w_102.2, r_this_bytes, r_this_one, r_this_reg))))
def s_X8_doIndexed (o_this : Int32 × Int32 × Int32 × Int32 × Bool × Bool × Int32 × Int32 × Int32 × Int32 × Bool × Bool × Bool × Int32 × Int32 × Int32 × Int32 × Int32 × Int32 × Int32 × Int32 × Int32 × Int32 × Int32 × Int32) (r_this_bytes : Nat → Int32) (r_this_keys : Nat → Int32) (r_this_one : Nat → Int32) (r_this_reg : Nat → Int32) (p1 : Int32) (p2 : Int32) (p3 : Int32) : Prop := (if (f_X8_sizeOf p1) ≤ 0 then (if (f_X8_sizeOf p1) = (4 : Int32) then (s_X8_field r_this_bytes p3 4 ∧ (if (79 : Int32) < p1 then s_X8_numbers o_this r_this_bytes r_this_reg p1 p2 p3 (f_X8_field r_this_bytes p3 4) else (if (f_X8_sizeOf p1) = (2 : Int32) then s_X8_numbers o_this r_this_bytes r_this_reg p1 p2 p3 (f_X8_field r_this_bytes p3 4) else (if p1 = (66 : Int32) then (vp_in p2 16 ∧ vp_in p3 2048) else (if p1 = (67 : Int32) then (vp_in p2 16 ∧ vp_in p2 16) else (if (f_X8_sizeOf p1) = 0 then s_X8_ways p1 p2 else (if p1 = (79 : Int32) then s_X8_toBinary o_this r_this_bytes r_this_one p2 p3 else (vp_in p2 16 ∧ (q_let (f_X8_spread r_this_one (r_this_reg p2.toNatClampNeg)) fun w_87 => s_X8_store r_this_bytes w_87 p3 8))))))))) else (if (f_X8_sizeOf p1) = (2 : Int32) then (s_X8_field r_this_bytes p3 2 ∧ (if (79 : Int32) < p1 then s_X8_numbers o_this r_this_bytes r_this_reg p1 p2 p3 (f_X8_signed (f_X8_field r_this_bytes p3 2)) else (if (f_X8_sizeOf p1) = (2 : Int32) then s_X8_numbers o_this r_this_bytes r_this_reg p1 p2 p3 (f_X8_signed (f_X8_field r_this_bytes p3 2)) else (if p1 = (66 : Int32) then (vp_in p2 16 ∧ vp_in p3 2048) else (if p1 = (67 : Int32) then (vp_in p2 16 ∧ vp_in p2 16) else (if (f_X8_sizeOf p1) = 0 then s_X8_ways p1 p2 else (if p1 = (79 : Int32) then s_X8_toBinary o_this r_this_bytes r_this_one p2 p3 else (vp_in p2 16 ∧ (q_let (f_X8_spread r_this_one (r_this_reg p2.toNatClampNeg)) fun w_63 => s_X8_store r_this_bytes w_63 p3 8))))))))) else (if (f_X8_sizeOf p1) = (1 : Int32) then (vp_in p3 2048 ∧ (if (79 : Int32) < p1 then s_X8_numbers o_this r_this_bytes r_this_reg p1 p2 p3 (r_this_bytes p3.toNatClampNeg) else (if (f_X8_sizeOf p1) = (2 : Int32) then s_X8_numbers o_this r_this_bytes r_this_reg p1 p2 p3 (r_this_bytes p3.toNatClampNeg) else (if p1 = (66 : Int32) then (vp_in p2 16 ∧ vp_in p3 2048) else (if p1 = (67 : Int32) then (vp_in p2 16 ∧ vp_in p2 16) else (if (f_X8_sizeOf p1) = 0 then s_X8_ways p1 p2 else (if p1 = (79 : Int32) then s_X8_toBinary o_this r_this_bytes r_this_one p2 p3 else (vp_in p2 16 ∧ (q_let (f_X8_spread r_this_one (r_this_reg p2.toNatClampNeg)) fun w_38 => s_X8_store r_this_bytes w_38 p3 8))))))))) else (if (79 : Int32) < p1 then s_X8_numbers o_this r_this_bytes r_this_reg p1 p2 p3 0 else (if (f_X8_sizeOf p1) = (2 : Int32) then s_X8_numbers o_this r_this_bytes r_this_reg p1 p2 p3 0 else (if p1 = (66 : Int32) then (vp_in p2 16 ∧ vp_in p3 2048) else (if p1 = (67 : Int32) then (vp_in p2 16 ∧ vp_in p2 16) else (if (f_X8_sizeOf p1) = 0 then s_X8_ways p1 p2 else (if p1 = (79 : Int32) then s_X8_toBinary o_this r_this_bytes r_this_one p2 p3 else (vp_in p2 16 ∧ (q_let (f_X8_spread r_this_one (r_this_reg p2.toNatClampNeg)) fun w_15 => s_X8_store r_this_bytes w_15 p3 8))))))))))) else (s_X8_good o_this r_this_keys p3 (f_X8_sizeOf p1) (f_X8_sizeOf p1) (f_X8_among p1 64 66 78 80) ∧ (q_let (f_X8_good o_this r_this_keys p3 (f_X8_sizeOf p1) (f_X8_sizeOf p1) (f_X8_among p1 64 66 78 80)) fun w_102 => (if w_102.1 = true then (if (f_X8_sizeOf p1) = (4 : Int32) then (s_X8_field r_this_bytes p3 4 ∧ (if (79 : Int32) < p1 then s_X8_numbers w_102.2 r_this_bytes r_this_reg p1 p2 p3 (f_X8_field r_this_bytes p3 4) else (if (f_X8_sizeOf p1) = (2 : Int32) then s_X8_numbers w_102.2 r_this_bytes r_this_reg p1 p2 p3 (f_X8_field r_this_bytes p3 4) else (if p1 = (66 : Int32) then (vp_in p2 16 ∧ vp_in p3 2048) else (if p1 = (67 : Int32) then (vp_in p2 16 ∧ vp_in p2 16) else (if (f_X8_sizeOf p1) = 0 then s_X8_ways p1 p2 else (if p1 = (79 : Int32) then s_X8_toBinary w_102.2 r_this_bytes r_this_one p2 p3 else (vp_in p2 16 ∧ (q_let (f_X8_spread r_this_one (r_this_reg p2.toNatClampNeg)) fun w_188 => s_X8_store r_this_bytes w_188 p3 8))))))))) else (if (f_X8_sizeOf p1) = (2 : Int32) then (s_X8_field r_this_bytes p3 2 ∧ (if (79 : Int32) < p1 then s_X8_numbers w_102.2 r_this_bytes r_this_reg p1 p2 p3 (f_X8_signed (f_X8_field r_this_bytes p3 2)) else (if (f_X8_sizeOf p1) = (2 : Int32) then s_X8_numbers w_102.2 r_this_bytes r_this_reg p1 p2 p3 (f_X8_signed (f_X8_field r_this_bytes p3 2)) else (if p1 = (66 : Int32) then (vp_in p2 16 ∧ vp_in p3 2048) else (if p1 = (67 : Int32) then (vp_in p2 16 ∧ vp_in p2 16) else (if (f_X8_sizeOf p1) = 0 then s_X8_ways p1 p2 else (if p1 = (79 : Int32) then s_X8_toBinary w_102.2 r_this_bytes r_this_one p2 p3 else (vp_in p2 16 ∧ (q_let (f_X8_spread r_this_one (r_this_reg p2.toNatClampNeg)) fun w_164 => s_X8_store r_this_bytes w_164 p3 8))))))))) else (if (f_X8_sizeOf p1) = (1 : Int32) then (vp_in p3 2048 ∧ (if (79 : Int32) < p1 then s_X8_numbers w_102.2 r_this_bytes r_this_reg p1 p2 p3 (r_this_bytes p3.toNatClampNeg) else (if (f_X8_sizeOf p1) = (2 : Int32) then s_X8_numbers w_102.2 r_this_bytes r_this_reg p1 p2 p3 (r_this_bytes p3.toNatClampNeg) else (if p1 = (66 : Int32) then (vp_in p2 16 ∧ vp_in p3 2048) else (if p1 = (67 : Int32) then (vp_in p2 16 ∧ vp_in p2 16) else (if (f_X8_sizeOf p1) = 0 then s_X8_ways p1 p2 else (if p1 = (79 : Int32) then s_X8_toBinary w_102.2 r_this_bytes r_this_one p2 p3 else (vp_in p2 16 ∧ (q_let (f_X8_spread r_this_one (r_this_reg p2.toNatClampNeg)) fun w_139 => s_X8_store r_this_bytes w_139 p3 8))))))))) else (if (79 : Int32) < p1 then s_X8_numbers w_102.2 r_this_bytes r_this_reg p1 p2 p3 0 else (if (f_X8_sizeOf p1) = (2 : Int32) then s_X8_numbers w_102.2 r_this_bytes r_this_reg p1 p2 p3 0 else (if p1 = (66 : Int32) then (vp_in p2 16 ∧ vp_in p3 2048) else (if p1 = (67 : Int32) then (vp_in p2 16 ∧ vp_in p2 16) else (if (f_X8_sizeOf p1) = 0 then s_X8_ways p1 p2 else (if p1 = (79 : Int32) then s_X8_toBinary w_102.2 r_this_bytes r_this_one p2 p3 else (vp_in p2 16 ∧ (q_let (f_X8_spread r_this_one (r_this_reg p2.toNatClampNeg)) fun w_116 => s_X8_store r_this_bytes w_116 p3 8))))))))))) else True))))
set_option linter.all false in
set_option maxHeartbeats 4000000 in
set_option maxRecDepth 100000 in
theorem c_X8_doIndexed (l : Launch) (D : va_G) (a_this a_this_bytes a_this_keys a_this_one a_this_reg a_this_card a_this_filled a_this_taken a_this_line a_this_two : Nat) (k_this_bytes k_this_keys k_this_one k_this_reg : ClassId) (o_this : Int32 × Int32 × Int32 × Int32 × Bool × Bool × Int32 × Int32 × Int32 × Int32 × Bool × Bool × Bool × Int32 × Int32 × Int32 × Int32 × Int32 × Int32 × Int32 × Int32 × Int32 × Int32 × Int32 × Int32) (r_this_bytes : Nat → Int32) (r_this_keys : Nat → Int32) (r_this_one : Nat → Int32) (r_this_reg : Nat → Int32) (p1 : Int32) (p2 : Int32) (p3 : Int32) (hs : s_X8_doIndexed o_this r_this_bytes r_this_keys r_this_one r_this_reg p1 p2 p3) : CtV l yX8_doIndexed cX8_doIndexed 6 none { frames := 3, cells := 0, slots := 0, locals := 76 } D [.ref a_this, .int p1, .int p2, .int p3] [(a_this, oX8 a_this_bytes a_this_keys a_this_reg a_this_card a_this_filled a_this_taken a_this_line a_this_one a_this_two o_this), (a_this_bytes, .inl (k_this_bytes, 2048, .inl r_this_bytes)), (a_this_keys, .inl (k_this_keys, 8, .inl r_this_keys)), (a_this_one, .inl (k_this_one, 40, .inl r_this_one)), (a_this_reg, .inl (k_this_reg, 16, .inl r_this_reg))] [(k_this_bytes, .int), (k_this_keys, .int), (k_this_one, .int), (k_this_reg, .int)] (fun (u : (Int32 × Int32 × Int32 × Int32 × Bool × Bool × Int32 × Int32 × Int32 × Int32 × Bool × Bool × Bool × Int32 × Int32 × Int32 × Int32 × Int32 × Int32 × Int32 × Int32 × Int32 × Int32 × Int32 × Int32) × (Nat → Int32) × (Nat → Int32) × (Nat → Int32)) => f_X8_doIndexed o_this r_this_bytes r_this_keys r_this_one r_this_reg p1 p2 p3 = u) (fun u => [(a_this, oX8 a_this_bytes a_this_keys a_this_reg a_this_card a_this_filled a_this_taken a_this_line a_this_one a_this_two u.1), (a_this_bytes, .inl (k_this_bytes, 2048, .inl u.2.1)), (a_this_keys, .inl (k_this_keys, 8, .inl r_this_keys)), (a_this_one, .inl (k_this_one, 40, .inl u.2.2.1)), (a_this_reg, .inl (k_this_reg, 16, .inl u.2.2.2))]) := by
  refine CtV.of (by decide) (Nat.le_of_ble_eq_true rfl) ?_
  intro p e s m below meth c A ls Q hE hP hD hS hl hQ
  obtain ⟨hx, hb, hml, hown, ht, hN, hK, hA⟩ := hE
  have hown : s.vm.findClass RX8 = some m.cls := hown
  have hl : lv_has ls 6 [(0, .ref a_this), (1, .int p1), (2, .int p2), (3, .int p3)] := hl
  obtain ⟨F, hF⟩ : ∃ F, f_X8_doIndexed o_this r_this_bytes r_this_keys r_this_one r_this_reg p1 p2 p3 = F := ⟨_, rfl⟩
  rw [hF] at hQ
  unfold f_X8_doIndexed at hF
  unfold s_X8_doIndexed at hs
  refine lv_iload_n hx hb dX8_doIndexed_0 rfl (lv_at hl 1 rfl) ?_
  refine q_Si (rest := []) (c_X8_sizeOf l D p1) cv_X8_sizeOf hx hb hml hown ht hN hK hA hP hD hS hl.1 (km_X8_155) ⟨Nat.le_of_ble_eq_true rfl, Nat.le_of_ble_eq_true rfl⟩ rfl rfl [] (by decide) rfl [] rfl (fun _ => rfl) rfl rfl (Nat.le_of_ble_eq_true rfl) dX8_doIndexed_1 ⟨Nat.zero_le _, Nat.zero_le _⟩ (fun r u H locs hw hP hD hS => ?_)
  obtain ⟨rfl, rfl⟩ := hw
  have hP : va_P D vwCl [(a_this, oX8 a_this_bytes a_this_keys a_this_reg a_this_card a_this_filled a_this_taken a_this_line a_this_one a_this_two o_this), (a_this_bytes, .inl (k_this_bytes, 2048, .inl r_this_bytes)), (a_this_keys, .inl (k_this_keys, 8, .inl r_this_keys)), (a_this_one, .inl (k_this_one, 40, .inl r_this_one)), (a_this_reg, .inl (k_this_reg, 16, .inl r_this_reg))] H := hP
  have hD : va_D A [(a_this, oX8 a_this_bytes a_this_keys a_this_reg a_this_card a_this_filled a_this_taken a_this_line a_this_one a_this_two o_this), (a_this_bytes, .inl (k_this_bytes, 2048, .inl r_this_bytes)), (a_this_keys, .inl (k_this_keys, 8, .inl r_this_keys)), (a_this_one, .inl (k_this_one, 40, .inl r_this_one)), (a_this_reg, .inl (k_this_reg, 16, .inl r_this_reg))] := hD
  refine lv_istore (lv' := [(4, .int (f_X8_sizeOf p1)), (0, .ref a_this), (1, .int p1), (2, .int p2), (3, .int p3)]) hx hb dX8_doIndexed_4 hl (by decide) rfl (fun ls hl => ?_)
  refine lv_iload hx hb dX8_doIndexed_6 (lv_at hl 0 rfl) ?_
  refine lv_if_le (tgt := 36) hx hb dX8_doIndexed_8 (by decide) (fun c_2 => ?_) (fun c_2 => ?_)
  · skip
    rw [if_pos c_2] at hF
    rw [if_pos c_2] at hs
    refine lv_iload hx hb dX8_doIndexed_36 (lv_at hl 0 rfl) ?_
    refine lv_iconst (v := 4) hx hb dX8_doIndexed_38 (by decide) ?_
    refine lv_icmp_ne (tgt := 51) hx hb dX8_doIndexed_39 (by decide) (fun c_3 => ?_) (fun c_3 => ?_)
    · skip
      rw [if_neg c_3] at hF
      rw [if_neg c_3] at hs
      refine lv_iload hx hb dX8_doIndexed_51 (lv_at hl 0 rfl) ?_
      refine lv_iconst (v := 2) hx hb dX8_doIndexed_53 (by decide) ?_
      refine lv_icmp_ne (tgt := 69) hx hb dX8_doIndexed_54 (by decide) (fun c_4 => ?_) (fun c_4 => ?_)
      · skip
        rw [if_neg c_4] at hF
        rw [if_neg c_4] at hs
        refine lv_iload hx hb dX8_doIndexed_69 (lv_at hl 0 rfl) ?_
        refine lv_iconst (v := 1) hx hb dX8_doIndexed_71 (by decide) ?_
        refine lv_icmp_ne (tgt := 84) hx hb dX8_doIndexed_72 (by decide) (fun c_5 => ?_) (fun c_5 => ?_)
        · skip
          rw [if_neg c_5] at hF
          rw [if_neg c_5] at hs
          refine lv_iconst (v := 0) hx hb dX8_doIndexed_84 (by decide) ?_
          refine lv_istore (lv' := [(5, .int 0), (4, .int (f_X8_sizeOf p1)), (0, .ref a_this), (1, .int p1), (2, .int p2), (3, .int p3)]) hx hb dX8_doIndexed_85 hl (by decide) rfl (fun ls hl => ?_)
          refine lv_iload_n hx hb dX8_doIndexed_87 rfl (lv_at hl 3 rfl) ?_
          refine lv_bipush (v := 79) hx hb dX8_doIndexed_88 (by decide) ?_
          refine lv_icmp_gt (tgt := 99) hx hb dX8_doIndexed_90 (by decide) (fun c_6 => ?_) (fun c_6 => ?_)
          · skip
            rw [if_pos c_6] at hF
            rw [if_pos c_6] at hs
            refine lv_aload_n hx hb dX8_doIndexed_99 rfl (lv_at hl 2 rfl) ?_
            refine lv_iload_n hx hb dX8_doIndexed_100 rfl (lv_at hl 3 rfl) ?_
            refine lv_iload_n hx hb dX8_doIndexed_101 rfl (lv_at hl 4 rfl) ?_
            refine lv_iload_n hx hb dX8_doIndexed_102 rfl (lv_at hl 5 rfl) ?_
            refine lv_iload hx hb dX8_doIndexed_103 (lv_at hl 0 rfl) ?_
            have hi_7 := hs
            refine q_Vv (rest := []) (c_X8_numbers l D a_this a_this_bytes a_this_reg a_this_keys a_this_card a_this_filled a_this_taken a_this_line a_this_one a_this_two k_this_bytes k_this_reg o_this r_this_bytes r_this_reg p1 p2 p3 0 hi_7) cv_X8_numbers hx hb hml hown ht hN hK hA hP hD hS hl.1 (km_X8_165) ⟨Nat.le_of_ble_eq_true rfl, Nat.le_of_ble_eq_true rfl⟩ rfl rfl [0, 1, 4] (by decide) rfl [0, 3] rfl (fun _ => rfl) (ci := 8) rfl rfl rfl rfl rfl (Nat.le_of_ble_eq_true rfl) dX8_doIndexed_105 ⟨Nat.zero_le _, Nat.zero_le _⟩ (fun w_8 H locs hw hP hD hS => ?_)
            have hP : va_P D vwCl [(a_this, oX8 a_this_bytes a_this_keys a_this_reg a_this_card a_this_filled a_this_taken a_this_line a_this_one a_this_two w_8.1), (a_this_bytes, .inl (k_this_bytes, 2048, .inl w_8.2.1)), (a_this_keys, .inl (k_this_keys, 8, .inl r_this_keys)), (a_this_one, .inl (k_this_one, 40, .inl r_this_one)), (a_this_reg, .inl (k_this_reg, 16, .inl w_8.2.2))] H := hP
            have hD : va_D A [(a_this, oX8 a_this_bytes a_this_keys a_this_reg a_this_card a_this_filled a_this_taken a_this_line a_this_one a_this_two w_8.1), (a_this_bytes, .inl (k_this_bytes, 2048, .inl w_8.2.1)), (a_this_keys, .inl (k_this_keys, 8, .inl r_this_keys)), (a_this_one, .inl (k_this_one, 40, .inl r_this_one)), (a_this_reg, .inl (k_this_reg, 16, .inl w_8.2.2))] := hD
            rw [q_let_of hw] at hF
            refine lv_goto (tgt := 211) hx hb dX8_doIndexed_108 (by decide) ?_
            exact hQ (w_8.1, w_8.2.1, r_this_one, w_8.2.2) _ _ _ _ dX8_doIndexed_211 hF.symm hP hD hS
          · skip
            rw [if_neg c_6] at hF
            rw [if_neg c_6] at hs
            refine lv_iload hx hb dX8_doIndexed_93 (lv_at hl 1 rfl) ?_
            refine lv_iconst (v := 2) hx hb dX8_doIndexed_95 (by decide) ?_
            refine lv_icmp_ne (tgt := 111) hx hb dX8_doIndexed_96 (by decide) (fun c_9 => ?_) (fun c_9 => ?_)
            · skip
              rw [if_neg c_9] at hF
              rw [if_neg c_9] at hs
              refine lv_iload_n hx hb dX8_doIndexed_111 rfl (lv_at hl 3 rfl) ?_
              refine lv_bipush (v := 66) hx hb dX8_doIndexed_112 (by decide) ?_
              refine lv_icmp_ne (tgt := 136) hx hb dX8_doIndexed_114 (by decide) (fun c_10 => ?_) (fun c_10 => ?_)
              · skip
                rw [if_neg c_10] at hF
                rw [if_neg c_10] at hs
                refine lv_iload_n hx hb dX8_doIndexed_136 rfl (lv_at hl 3 rfl) ?_
                refine lv_bipush (v := 67) hx hb dX8_doIndexed_137 (by decide) ?_
                refine lv_icmp_ne (tgt := 164) hx hb dX8_doIndexed_139 (by decide) (fun c_11 => ?_) (fun c_11 => ?_)
                · skip
                  rw [if_neg c_11] at hF
                  rw [if_neg c_11] at hs
                  refine lv_iload hx hb dX8_doIndexed_164 (lv_at hl 1 rfl) ?_
                  refine lv_if_ne (tgt := 179) hx hb dX8_doIndexed_166 (by decide) (fun c_12 => ?_) (fun c_12 => ?_)
                  · skip
                    rw [if_neg c_12] at hF
                    rw [if_neg c_12] at hs
                    refine lv_iload_n hx hb dX8_doIndexed_179 rfl (lv_at hl 3 rfl) ?_
                    refine lv_bipush (v := 79) hx hb dX8_doIndexed_180 (by decide) ?_
                    refine lv_icmp_ne (tgt := 194) hx hb dX8_doIndexed_182 (by decide) (fun c_13 => ?_) (fun c_13 => ?_)
                    · skip
                      rw [if_neg c_13] at hF
                      rw [if_neg c_13] at hs
                      refine lv_aload_n hx hb dX8_doIndexed_194 rfl (lv_at hl 2 rfl) ?_
                      refine lv_aload_n hx hb dX8_doIndexed_195 rfl (lv_at hl 2 rfl) ?_
                      refine gf_X8_16 (v := .ref a_this_reg) hx hb hown ht hK hP 0 rfl rfl dX8_doIndexed_196 ?_
                      refine lv_iload_n hx hb dX8_doIndexed_199 rfl (lv_at hl 4 rfl) ?_
                      obtain ⟨hi_14, hs⟩ := hs
                      refine va_iald hx hb hK hP 4 3 rfl rfl hi_14 dX8_doIndexed_200 ?_
                      refine q_Vv (rest := []) (c_X8_spread l D a_this a_this_one a_this_bytes a_this_keys a_this_reg a_this_card a_this_filled a_this_taken a_this_line a_this_two k_this_one o_this r_this_one (r_this_reg p2.toNatClampNeg)) cv_X8_spread hx hb hml hown ht hN hK hA hP hD hS hl.1 (km_X8_174) ⟨Nat.le_of_ble_eq_true rfl, Nat.le_of_ble_eq_true rfl⟩ rfl rfl [0, 3] (by decide) rfl [2] rfl (fun _ => rfl) (ci := 8) rfl rfl rfl rfl rfl (Nat.le_of_ble_eq_true rfl) dX8_doIndexed_201 ⟨Nat.zero_le _, Nat.zero_le _⟩ (fun w_15 H locs hw hP hD hS => ?_)
                      have hP : va_P D vwCl [(a_this, oX8 a_this_bytes a_this_keys a_this_reg a_this_card a_this_filled a_this_taken a_this_line a_this_one a_this_two o_this), (a_this_bytes, .inl (k_this_bytes, 2048, .inl r_this_bytes)), (a_this_keys, .inl (k_this_keys, 8, .inl r_this_keys)), (a_this_one, .inl (k_this_one, 40, .inl w_15)), (a_this_reg, .inl (k_this_reg, 16, .inl r_this_reg))] H := hP
                      have hD : va_D A [(a_this, oX8 a_this_bytes a_this_keys a_this_reg a_this_card a_this_filled a_this_taken a_this_line a_this_one a_this_two o_this), (a_this_bytes, .inl (k_this_bytes, 2048, .inl r_this_bytes)), (a_this_keys, .inl (k_this_keys, 8, .inl r_this_keys)), (a_this_one, .inl (k_this_one, 40, .inl w_15)), (a_this_reg, .inl (k_this_reg, 16, .inl r_this_reg))] := hD
                      rw [q_let_of hw] at hF
                      rw [q_let_of hw] at hs
                      refine lv_aload_n hx hb dX8_doIndexed_204 rfl (lv_at hl 2 rfl) ?_
                      refine lv_iload_n hx hb dX8_doIndexed_205 rfl (lv_at hl 5 rfl) ?_
                      refine lv_bipush (v := 8) hx hb dX8_doIndexed_206 (by decide) ?_
                      have hi_16 := hs
                      refine q_Vv (rest := []) (c_X8_store l D a_this a_this_bytes a_this_one a_this_keys a_this_reg a_this_card a_this_filled a_this_taken a_this_line a_this_two k_this_bytes k_this_one o_this r_this_bytes w_15 p3 8 hi_16) cv_X8_store hx hb hml hown ht hN hK hA hP hD hS hl.1 (km_X8_177) ⟨Nat.le_of_ble_eq_true rfl, Nat.le_of_ble_eq_true rfl⟩ rfl rfl [0, 1, 3] (by decide) rfl [0, 2] rfl (fun _ => rfl) (ci := 8) rfl rfl rfl rfl rfl (Nat.le_of_ble_eq_true rfl) dX8_doIndexed_208 ⟨Nat.zero_le _, Nat.zero_le _⟩ (fun w_17 H locs hw hP hD hS => ?_)
                      have hP : va_P D vwCl [(a_this, oX8 a_this_bytes a_this_keys a_this_reg a_this_card a_this_filled a_this_taken a_this_line a_this_one a_this_two o_this), (a_this_bytes, .inl (k_this_bytes, 2048, .inl w_17)), (a_this_keys, .inl (k_this_keys, 8, .inl r_this_keys)), (a_this_one, .inl (k_this_one, 40, .inl w_15)), (a_this_reg, .inl (k_this_reg, 16, .inl r_this_reg))] H := hP
                      have hD : va_D A [(a_this, oX8 a_this_bytes a_this_keys a_this_reg a_this_card a_this_filled a_this_taken a_this_line a_this_one a_this_two o_this), (a_this_bytes, .inl (k_this_bytes, 2048, .inl w_17)), (a_this_keys, .inl (k_this_keys, 8, .inl r_this_keys)), (a_this_one, .inl (k_this_one, 40, .inl w_15)), (a_this_reg, .inl (k_this_reg, 16, .inl r_this_reg))] := hD
                      rw [q_let_of hw] at hF
                      exact hQ (o_this, w_17, w_15, r_this_reg) _ _ _ _ dX8_doIndexed_211 hF.symm hP hD hS
                    · skip
                      rw [if_pos c_13] at hF
                      rw [if_pos c_13] at hs
                      refine lv_aload_n hx hb dX8_doIndexed_185 rfl (lv_at hl 2 rfl) ?_
                      refine lv_iload_n hx hb dX8_doIndexed_186 rfl (lv_at hl 4 rfl) ?_
                      refine lv_iload_n hx hb dX8_doIndexed_187 rfl (lv_at hl 5 rfl) ?_
                      have hi_18 := hs
                      refine q_Vv (rest := []) (c_X8_toBinary l D a_this a_this_bytes a_this_one a_this_reg a_this_keys a_this_card a_this_filled a_this_taken a_this_line a_this_two k_this_bytes k_this_one k_this_reg o_this r_this_bytes r_this_one r_this_reg p2 p3 hi_18) cv_X8_toBinary hx hb hml hown ht hN hK hA hP hD hS hl.1 (km_X8_171) ⟨Nat.le_of_ble_eq_true rfl, Nat.le_of_ble_eq_true rfl⟩ rfl rfl [0, 1, 3, 4] (by decide) rfl [0, 2, 3] rfl (fun _ => rfl) (ci := 8) rfl rfl rfl rfl rfl (Nat.le_of_ble_eq_true rfl) dX8_doIndexed_188 ⟨Nat.zero_le _, Nat.zero_le _⟩ (fun w_19 H locs hw hP hD hS => ?_)
                      have hP : va_P D vwCl [(a_this, oX8 a_this_bytes a_this_keys a_this_reg a_this_card a_this_filled a_this_taken a_this_line a_this_one a_this_two w_19.1), (a_this_bytes, .inl (k_this_bytes, 2048, .inl r_this_bytes)), (a_this_keys, .inl (k_this_keys, 8, .inl r_this_keys)), (a_this_one, .inl (k_this_one, 40, .inl w_19.2.1)), (a_this_reg, .inl (k_this_reg, 16, .inl w_19.2.2))] H := hP
                      have hD : va_D A [(a_this, oX8 a_this_bytes a_this_keys a_this_reg a_this_card a_this_filled a_this_taken a_this_line a_this_one a_this_two w_19.1), (a_this_bytes, .inl (k_this_bytes, 2048, .inl r_this_bytes)), (a_this_keys, .inl (k_this_keys, 8, .inl r_this_keys)), (a_this_one, .inl (k_this_one, 40, .inl w_19.2.1)), (a_this_reg, .inl (k_this_reg, 16, .inl w_19.2.2))] := hD
                      rw [q_let_of hw] at hF
                      refine lv_goto (tgt := 211) hx hb dX8_doIndexed_191 (by decide) ?_
                      exact hQ (w_19.1, r_this_bytes, w_19.2.1, w_19.2.2) _ _ _ _ dX8_doIndexed_211 hF.symm hP hD hS
                  · skip
                    rw [if_pos c_12] at hF
                    rw [if_pos c_12] at hs
                    refine lv_aload_n hx hb dX8_doIndexed_169 rfl (lv_at hl 2 rfl) ?_
                    refine lv_iload_n hx hb dX8_doIndexed_170 rfl (lv_at hl 3 rfl) ?_
                    refine lv_iload_n hx hb dX8_doIndexed_171 rfl (lv_at hl 4 rfl) ?_
                    refine lv_iload_n hx hb dX8_doIndexed_172 rfl (lv_at hl 5 rfl) ?_
                    have hi_20 := hs
                    refine q_Vv (rest := []) (c_X8_ways l D a_this a_this_reg a_this_bytes a_this_keys a_this_card a_this_filled a_this_taken a_this_line a_this_one a_this_two k_this_reg o_this r_this_reg p1 p2 p3 hi_20) cv_X8_ways hx hb hml hown ht hN hK hA hP hD hS hl.1 (km_X8_168) ⟨Nat.le_of_ble_eq_true rfl, Nat.le_of_ble_eq_true rfl⟩ rfl rfl [0, 4] (by decide) rfl [3] rfl (fun _ => rfl) (ci := 8) rfl rfl rfl rfl rfl (Nat.le_of_ble_eq_true rfl) dX8_doIndexed_173 ⟨Nat.zero_le _, Nat.zero_le _⟩ (fun w_21 H locs hw hP hD hS => ?_)
                    have hP : va_P D vwCl [(a_this, oX8 a_this_bytes a_this_keys a_this_reg a_this_card a_this_filled a_this_taken a_this_line a_this_one a_this_two w_21.1), (a_this_bytes, .inl (k_this_bytes, 2048, .inl r_this_bytes)), (a_this_keys, .inl (k_this_keys, 8, .inl r_this_keys)), (a_this_one, .inl (k_this_one, 40, .inl r_this_one)), (a_this_reg, .inl (k_this_reg, 16, .inl w_21.2))] H := hP
                    have hD : va_D A [(a_this, oX8 a_this_bytes a_this_keys a_this_reg a_this_card a_this_filled a_this_taken a_this_line a_this_one a_this_two w_21.1), (a_this_bytes, .inl (k_this_bytes, 2048, .inl r_this_bytes)), (a_this_keys, .inl (k_this_keys, 8, .inl r_this_keys)), (a_this_one, .inl (k_this_one, 40, .inl r_this_one)), (a_this_reg, .inl (k_this_reg, 16, .inl w_21.2))] := hD
                    rw [q_let_of hw] at hF
                    refine lv_goto (tgt := 211) hx hb dX8_doIndexed_176 (by decide) ?_
                    exact hQ (w_21.1, r_this_bytes, r_this_one, w_21.2) _ _ _ _ dX8_doIndexed_211 hF.symm hP hD hS
                · skip
                  rw [if_pos c_11] at hF
                  rw [if_pos c_11] at hs
                  refine lv_aload_n hx hb dX8_doIndexed_142 rfl (lv_at hl 2 rfl) ?_
                  refine gf_X8_16 (v := .ref a_this_reg) hx hb hown ht hK hP 0 rfl rfl dX8_doIndexed_143 ?_
                  refine lv_iload_n hx hb dX8_doIndexed_146 rfl (lv_at hl 4 rfl) ?_
                  refine lv_aload_n hx hb dX8_doIndexed_147 rfl (lv_at hl 2 rfl) ?_
                  refine gf_X8_16 (v := .ref a_this_reg) hx hb hown ht hK hP 0 rfl rfl dX8_doIndexed_148 ?_
                  refine lv_iload_n hx hb dX8_doIndexed_151 rfl (lv_at hl 4 rfl) ?_
                  obtain ⟨hi_22, hs⟩ := hs
                  refine va_iald hx hb hK hP 4 3 rfl rfl hi_22 dX8_doIndexed_152 ?_
                  refine lv_sipush (v := (-256)) hx hb dX8_doIndexed_153 (by decide) ?_
                  refine lv_iand hx hb dX8_doIndexed_156 ?_
                  refine lv_iload hx hb dX8_doIndexed_157 (lv_at hl 0 rfl) ?_
                  refine lv_iadd hx hb dX8_doIndexed_159 ?_
                  have hi_23 := hs
                  refine va_iast hx hb hK hP hD hS 4 3 rfl rfl hi_23 dX8_doIndexed_160 (fun H locs hP hD hS => ?_)
                  have hP : va_P D vwCl [(a_this, oX8 a_this_bytes a_this_keys a_this_reg a_this_card a_this_filled a_this_taken a_this_line a_this_one a_this_two o_this), (a_this_bytes, .inl (k_this_bytes, 2048, .inl r_this_bytes)), (a_this_keys, .inl (k_this_keys, 8, .inl r_this_keys)), (a_this_one, .inl (k_this_one, 40, .inl r_this_one)), (a_this_reg, .inl (k_this_reg, 16, .inl (upd r_this_reg p2.toNatClampNeg (((r_this_reg p2.toNatClampNeg) &&& ((-256) : Int32)) + (0 : Int32)))))] H := hP
                  have hD : va_D A [(a_this, oX8 a_this_bytes a_this_keys a_this_reg a_this_card a_this_filled a_this_taken a_this_line a_this_one a_this_two o_this), (a_this_bytes, .inl (k_this_bytes, 2048, .inl r_this_bytes)), (a_this_keys, .inl (k_this_keys, 8, .inl r_this_keys)), (a_this_one, .inl (k_this_one, 40, .inl r_this_one)), (a_this_reg, .inl (k_this_reg, 16, .inl (upd r_this_reg p2.toNatClampNeg (((r_this_reg p2.toNatClampNeg) &&& ((-256) : Int32)) + (0 : Int32)))))] := hD
                  refine lv_goto (tgt := 211) hx hb dX8_doIndexed_161 (by decide) ?_
                  exact hQ (o_this, r_this_bytes, r_this_one, (upd r_this_reg p2.toNatClampNeg (((r_this_reg p2.toNatClampNeg) &&& ((-256) : Int32)) + (0 : Int32)))) _ _ _ _ dX8_doIndexed_211 hF.symm hP hD hS
              · skip
                rw [if_pos c_10] at hF
                rw [if_pos c_10] at hs
                refine lv_aload_n hx hb dX8_doIndexed_117 rfl (lv_at hl 2 rfl) ?_
                refine gf_X8_7 (v := .ref a_this_bytes) hx hb hown ht hK hP 0 rfl rfl dX8_doIndexed_118 ?_
                refine lv_iload_n hx hb dX8_doIndexed_121 rfl (lv_at hl 5 rfl) ?_
                refine lv_aload_n hx hb dX8_doIndexed_122 rfl (lv_at hl 2 rfl) ?_
                refine gf_X8_16 (v := .ref a_this_reg) hx hb hown ht hK hP 0 rfl rfl dX8_doIndexed_123 ?_
                refine lv_iload_n hx hb dX8_doIndexed_126 rfl (lv_at hl 4 rfl) ?_
                obtain ⟨hi_24, hs⟩ := hs
                refine va_iald hx hb hK hP 4 3 rfl rfl hi_24 dX8_doIndexed_127 ?_
                refine lv_sipush (v := 255) hx hb dX8_doIndexed_128 (by decide) ?_
                refine lv_iand hx hb dX8_doIndexed_131 ?_
                have hi_25 := hs
                refine va_iast hx hb hK hP hD hS 1 0 rfl rfl hi_25 dX8_doIndexed_132 (fun H locs hP hD hS => ?_)
                have hP : va_P D vwCl [(a_this, oX8 a_this_bytes a_this_keys a_this_reg a_this_card a_this_filled a_this_taken a_this_line a_this_one a_this_two o_this), (a_this_bytes, .inl (k_this_bytes, 2048, .inl (upd r_this_bytes p3.toNatClampNeg ((r_this_reg p2.toNatClampNeg) &&& (255 : Int32))))), (a_this_keys, .inl (k_this_keys, 8, .inl r_this_keys)), (a_this_one, .inl (k_this_one, 40, .inl r_this_one)), (a_this_reg, .inl (k_this_reg, 16, .inl r_this_reg))] H := hP
                have hD : va_D A [(a_this, oX8 a_this_bytes a_this_keys a_this_reg a_this_card a_this_filled a_this_taken a_this_line a_this_one a_this_two o_this), (a_this_bytes, .inl (k_this_bytes, 2048, .inl (upd r_this_bytes p3.toNatClampNeg ((r_this_reg p2.toNatClampNeg) &&& (255 : Int32))))), (a_this_keys, .inl (k_this_keys, 8, .inl r_this_keys)), (a_this_one, .inl (k_this_one, 40, .inl r_this_one)), (a_this_reg, .inl (k_this_reg, 16, .inl r_this_reg))] := hD
                refine lv_goto (tgt := 211) hx hb dX8_doIndexed_133 (by decide) ?_
                exact hQ (o_this, (upd r_this_bytes p3.toNatClampNeg ((r_this_reg p2.toNatClampNeg) &&& (255 : Int32))), r_this_one, r_this_reg) _ _ _ _ dX8_doIndexed_211 hF.symm hP hD hS
            · skip
              rw [if_pos c_9] at hF
              rw [if_pos c_9] at hs
              refine lv_aload_n hx hb dX8_doIndexed_99 rfl (lv_at hl 2 rfl) ?_
              refine lv_iload_n hx hb dX8_doIndexed_100 rfl (lv_at hl 3 rfl) ?_
              refine lv_iload_n hx hb dX8_doIndexed_101 rfl (lv_at hl 4 rfl) ?_
              refine lv_iload_n hx hb dX8_doIndexed_102 rfl (lv_at hl 5 rfl) ?_
              refine lv_iload hx hb dX8_doIndexed_103 (lv_at hl 0 rfl) ?_
              have hi_26 := hs
              refine q_Vv (rest := []) (c_X8_numbers l D a_this a_this_bytes a_this_reg a_this_keys a_this_card a_this_filled a_this_taken a_this_line a_this_one a_this_two k_this_bytes k_this_reg o_this r_this_bytes r_this_reg p1 p2 p3 0 hi_26) cv_X8_numbers hx hb hml hown ht hN hK hA hP hD hS hl.1 (km_X8_165) ⟨Nat.le_of_ble_eq_true rfl, Nat.le_of_ble_eq_true rfl⟩ rfl rfl [0, 1, 4] (by decide) rfl [0, 3] rfl (fun _ => rfl) (ci := 8) rfl rfl rfl rfl rfl (Nat.le_of_ble_eq_true rfl) dX8_doIndexed_105 ⟨Nat.zero_le _, Nat.zero_le _⟩ (fun w_27 H locs hw hP hD hS => ?_)
              have hP : va_P D vwCl [(a_this, oX8 a_this_bytes a_this_keys a_this_reg a_this_card a_this_filled a_this_taken a_this_line a_this_one a_this_two w_27.1), (a_this_bytes, .inl (k_this_bytes, 2048, .inl w_27.2.1)), (a_this_keys, .inl (k_this_keys, 8, .inl r_this_keys)), (a_this_one, .inl (k_this_one, 40, .inl r_this_one)), (a_this_reg, .inl (k_this_reg, 16, .inl w_27.2.2))] H := hP
              have hD : va_D A [(a_this, oX8 a_this_bytes a_this_keys a_this_reg a_this_card a_this_filled a_this_taken a_this_line a_this_one a_this_two w_27.1), (a_this_bytes, .inl (k_this_bytes, 2048, .inl w_27.2.1)), (a_this_keys, .inl (k_this_keys, 8, .inl r_this_keys)), (a_this_one, .inl (k_this_one, 40, .inl r_this_one)), (a_this_reg, .inl (k_this_reg, 16, .inl w_27.2.2))] := hD
              rw [q_let_of hw] at hF
              refine lv_goto (tgt := 211) hx hb dX8_doIndexed_108 (by decide) ?_
              exact hQ (w_27.1, w_27.2.1, r_this_one, w_27.2.2) _ _ _ _ dX8_doIndexed_211 hF.symm hP hD hS
        · skip
          rw [if_pos c_5] at hF
          rw [if_pos c_5] at hs
          refine lv_aload_n hx hb dX8_doIndexed_75 rfl (lv_at hl 1 rfl) ?_
          refine gf_X8_7 (v := .ref a_this_bytes) hx hb hown ht hK hP 0 rfl rfl dX8_doIndexed_76 ?_
          refine lv_iload_n hx hb dX8_doIndexed_79 rfl (lv_at hl 4 rfl) ?_
          obtain ⟨hi_28, hs⟩ := hs
          refine va_iald hx hb hK hP 1 0 rfl rfl hi_28 dX8_doIndexed_80 ?_
          refine lv_goto (tgt := 85) hx hb dX8_doIndexed_81 (by decide) ?_
          refine lv_istore (lv' := [(5, .int (r_this_bytes p3.toNatClampNeg)), (4, .int (f_X8_sizeOf p1)), (0, .ref a_this), (1, .int p1), (2, .int p2), (3, .int p3)]) hx hb dX8_doIndexed_85 hl (by decide) rfl (fun ls hl => ?_)
          refine lv_iload_n hx hb dX8_doIndexed_87 rfl (lv_at hl 3 rfl) ?_
          refine lv_bipush (v := 79) hx hb dX8_doIndexed_88 (by decide) ?_
          refine lv_icmp_gt (tgt := 99) hx hb dX8_doIndexed_90 (by decide) (fun c_29 => ?_) (fun c_29 => ?_)
          · skip
            rw [if_pos c_29] at hF
            rw [if_pos c_29] at hs
            refine lv_aload_n hx hb dX8_doIndexed_99 rfl (lv_at hl 2 rfl) ?_
            refine lv_iload_n hx hb dX8_doIndexed_100 rfl (lv_at hl 3 rfl) ?_
            refine lv_iload_n hx hb dX8_doIndexed_101 rfl (lv_at hl 4 rfl) ?_
            refine lv_iload_n hx hb dX8_doIndexed_102 rfl (lv_at hl 5 rfl) ?_
            refine lv_iload hx hb dX8_doIndexed_103 (lv_at hl 0 rfl) ?_
            have hi_30 := hs
            refine q_Vv (rest := []) (c_X8_numbers l D a_this a_this_bytes a_this_reg a_this_keys a_this_card a_this_filled a_this_taken a_this_line a_this_one a_this_two k_this_bytes k_this_reg o_this r_this_bytes r_this_reg p1 p2 p3 (r_this_bytes p3.toNatClampNeg) hi_30) cv_X8_numbers hx hb hml hown ht hN hK hA hP hD hS hl.1 (km_X8_165) ⟨Nat.le_of_ble_eq_true rfl, Nat.le_of_ble_eq_true rfl⟩ rfl rfl [0, 1, 4] (by decide) rfl [0, 3] rfl (fun _ => rfl) (ci := 8) rfl rfl rfl rfl rfl (Nat.le_of_ble_eq_true rfl) dX8_doIndexed_105 ⟨Nat.zero_le _, Nat.zero_le _⟩ (fun w_31 H locs hw hP hD hS => ?_)
            have hP : va_P D vwCl [(a_this, oX8 a_this_bytes a_this_keys a_this_reg a_this_card a_this_filled a_this_taken a_this_line a_this_one a_this_two w_31.1), (a_this_bytes, .inl (k_this_bytes, 2048, .inl w_31.2.1)), (a_this_keys, .inl (k_this_keys, 8, .inl r_this_keys)), (a_this_one, .inl (k_this_one, 40, .inl r_this_one)), (a_this_reg, .inl (k_this_reg, 16, .inl w_31.2.2))] H := hP
            have hD : va_D A [(a_this, oX8 a_this_bytes a_this_keys a_this_reg a_this_card a_this_filled a_this_taken a_this_line a_this_one a_this_two w_31.1), (a_this_bytes, .inl (k_this_bytes, 2048, .inl w_31.2.1)), (a_this_keys, .inl (k_this_keys, 8, .inl r_this_keys)), (a_this_one, .inl (k_this_one, 40, .inl r_this_one)), (a_this_reg, .inl (k_this_reg, 16, .inl w_31.2.2))] := hD
            rw [q_let_of hw] at hF
            refine lv_goto (tgt := 211) hx hb dX8_doIndexed_108 (by decide) ?_
            exact hQ (w_31.1, w_31.2.1, r_this_one, w_31.2.2) _ _ _ _ dX8_doIndexed_211 hF.symm hP hD hS
          · skip
            rw [if_neg c_29] at hF
            rw [if_neg c_29] at hs
            refine lv_iload hx hb dX8_doIndexed_93 (lv_at hl 1 rfl) ?_
            refine lv_iconst (v := 2) hx hb dX8_doIndexed_95 (by decide) ?_
            refine lv_icmp_ne (tgt := 111) hx hb dX8_doIndexed_96 (by decide) (fun c_32 => ?_) (fun c_32 => ?_)
            · skip
              rw [if_neg c_32] at hF
              rw [if_neg c_32] at hs
              refine lv_iload_n hx hb dX8_doIndexed_111 rfl (lv_at hl 3 rfl) ?_
              refine lv_bipush (v := 66) hx hb dX8_doIndexed_112 (by decide) ?_
              refine lv_icmp_ne (tgt := 136) hx hb dX8_doIndexed_114 (by decide) (fun c_33 => ?_) (fun c_33 => ?_)
              · skip
                rw [if_neg c_33] at hF
                rw [if_neg c_33] at hs
                refine lv_iload_n hx hb dX8_doIndexed_136 rfl (lv_at hl 3 rfl) ?_
                refine lv_bipush (v := 67) hx hb dX8_doIndexed_137 (by decide) ?_
                refine lv_icmp_ne (tgt := 164) hx hb dX8_doIndexed_139 (by decide) (fun c_34 => ?_) (fun c_34 => ?_)
                · skip
                  rw [if_neg c_34] at hF
                  rw [if_neg c_34] at hs
                  refine lv_iload hx hb dX8_doIndexed_164 (lv_at hl 1 rfl) ?_
                  refine lv_if_ne (tgt := 179) hx hb dX8_doIndexed_166 (by decide) (fun c_35 => ?_) (fun c_35 => ?_)
                  · skip
                    rw [if_neg c_35] at hF
                    rw [if_neg c_35] at hs
                    refine lv_iload_n hx hb dX8_doIndexed_179 rfl (lv_at hl 3 rfl) ?_
                    refine lv_bipush (v := 79) hx hb dX8_doIndexed_180 (by decide) ?_
                    refine lv_icmp_ne (tgt := 194) hx hb dX8_doIndexed_182 (by decide) (fun c_36 => ?_) (fun c_36 => ?_)
                    · skip
                      rw [if_neg c_36] at hF
                      rw [if_neg c_36] at hs
                      refine lv_aload_n hx hb dX8_doIndexed_194 rfl (lv_at hl 2 rfl) ?_
                      refine lv_aload_n hx hb dX8_doIndexed_195 rfl (lv_at hl 2 rfl) ?_
                      refine gf_X8_16 (v := .ref a_this_reg) hx hb hown ht hK hP 0 rfl rfl dX8_doIndexed_196 ?_
                      refine lv_iload_n hx hb dX8_doIndexed_199 rfl (lv_at hl 4 rfl) ?_
                      obtain ⟨hi_37, hs⟩ := hs
                      refine va_iald hx hb hK hP 4 3 rfl rfl hi_37 dX8_doIndexed_200 ?_
                      refine q_Vv (rest := []) (c_X8_spread l D a_this a_this_one a_this_bytes a_this_keys a_this_reg a_this_card a_this_filled a_this_taken a_this_line a_this_two k_this_one o_this r_this_one (r_this_reg p2.toNatClampNeg)) cv_X8_spread hx hb hml hown ht hN hK hA hP hD hS hl.1 (km_X8_174) ⟨Nat.le_of_ble_eq_true rfl, Nat.le_of_ble_eq_true rfl⟩ rfl rfl [0, 3] (by decide) rfl [2] rfl (fun _ => rfl) (ci := 8) rfl rfl rfl rfl rfl (Nat.le_of_ble_eq_true rfl) dX8_doIndexed_201 ⟨Nat.zero_le _, Nat.zero_le _⟩ (fun w_38 H locs hw hP hD hS => ?_)
                      have hP : va_P D vwCl [(a_this, oX8 a_this_bytes a_this_keys a_this_reg a_this_card a_this_filled a_this_taken a_this_line a_this_one a_this_two o_this), (a_this_bytes, .inl (k_this_bytes, 2048, .inl r_this_bytes)), (a_this_keys, .inl (k_this_keys, 8, .inl r_this_keys)), (a_this_one, .inl (k_this_one, 40, .inl w_38)), (a_this_reg, .inl (k_this_reg, 16, .inl r_this_reg))] H := hP
                      have hD : va_D A [(a_this, oX8 a_this_bytes a_this_keys a_this_reg a_this_card a_this_filled a_this_taken a_this_line a_this_one a_this_two o_this), (a_this_bytes, .inl (k_this_bytes, 2048, .inl r_this_bytes)), (a_this_keys, .inl (k_this_keys, 8, .inl r_this_keys)), (a_this_one, .inl (k_this_one, 40, .inl w_38)), (a_this_reg, .inl (k_this_reg, 16, .inl r_this_reg))] := hD
                      rw [q_let_of hw] at hF
                      rw [q_let_of hw] at hs
                      refine lv_aload_n hx hb dX8_doIndexed_204 rfl (lv_at hl 2 rfl) ?_
                      refine lv_iload_n hx hb dX8_doIndexed_205 rfl (lv_at hl 5 rfl) ?_
                      refine lv_bipush (v := 8) hx hb dX8_doIndexed_206 (by decide) ?_
                      have hi_39 := hs
                      refine q_Vv (rest := []) (c_X8_store l D a_this a_this_bytes a_this_one a_this_keys a_this_reg a_this_card a_this_filled a_this_taken a_this_line a_this_two k_this_bytes k_this_one o_this r_this_bytes w_38 p3 8 hi_39) cv_X8_store hx hb hml hown ht hN hK hA hP hD hS hl.1 (km_X8_177) ⟨Nat.le_of_ble_eq_true rfl, Nat.le_of_ble_eq_true rfl⟩ rfl rfl [0, 1, 3] (by decide) rfl [0, 2] rfl (fun _ => rfl) (ci := 8) rfl rfl rfl rfl rfl (Nat.le_of_ble_eq_true rfl) dX8_doIndexed_208 ⟨Nat.zero_le _, Nat.zero_le _⟩ (fun w_40 H locs hw hP hD hS => ?_)
                      have hP : va_P D vwCl [(a_this, oX8 a_this_bytes a_this_keys a_this_reg a_this_card a_this_filled a_this_taken a_this_line a_this_one a_this_two o_this), (a_this_bytes, .inl (k_this_bytes, 2048, .inl w_40)), (a_this_keys, .inl (k_this_keys, 8, .inl r_this_keys)), (a_this_one, .inl (k_this_one, 40, .inl w_38)), (a_this_reg, .inl (k_this_reg, 16, .inl r_this_reg))] H := hP
                      have hD : va_D A [(a_this, oX8 a_this_bytes a_this_keys a_this_reg a_this_card a_this_filled a_this_taken a_this_line a_this_one a_this_two o_this), (a_this_bytes, .inl (k_this_bytes, 2048, .inl w_40)), (a_this_keys, .inl (k_this_keys, 8, .inl r_this_keys)), (a_this_one, .inl (k_this_one, 40, .inl w_38)), (a_this_reg, .inl (k_this_reg, 16, .inl r_this_reg))] := hD
                      rw [q_let_of hw] at hF
                      exact hQ (o_this, w_40, w_38, r_this_reg) _ _ _ _ dX8_doIndexed_211 hF.symm hP hD hS
                    · skip
                      rw [if_pos c_36] at hF
                      rw [if_pos c_36] at hs
                      refine lv_aload_n hx hb dX8_doIndexed_185 rfl (lv_at hl 2 rfl) ?_
                      refine lv_iload_n hx hb dX8_doIndexed_186 rfl (lv_at hl 4 rfl) ?_
                      refine lv_iload_n hx hb dX8_doIndexed_187 rfl (lv_at hl 5 rfl) ?_
                      have hi_41 := hs
                      refine q_Vv (rest := []) (c_X8_toBinary l D a_this a_this_bytes a_this_one a_this_reg a_this_keys a_this_card a_this_filled a_this_taken a_this_line a_this_two k_this_bytes k_this_one k_this_reg o_this r_this_bytes r_this_one r_this_reg p2 p3 hi_41) cv_X8_toBinary hx hb hml hown ht hN hK hA hP hD hS hl.1 (km_X8_171) ⟨Nat.le_of_ble_eq_true rfl, Nat.le_of_ble_eq_true rfl⟩ rfl rfl [0, 1, 3, 4] (by decide) rfl [0, 2, 3] rfl (fun _ => rfl) (ci := 8) rfl rfl rfl rfl rfl (Nat.le_of_ble_eq_true rfl) dX8_doIndexed_188 ⟨Nat.zero_le _, Nat.zero_le _⟩ (fun w_42 H locs hw hP hD hS => ?_)
                      have hP : va_P D vwCl [(a_this, oX8 a_this_bytes a_this_keys a_this_reg a_this_card a_this_filled a_this_taken a_this_line a_this_one a_this_two w_42.1), (a_this_bytes, .inl (k_this_bytes, 2048, .inl r_this_bytes)), (a_this_keys, .inl (k_this_keys, 8, .inl r_this_keys)), (a_this_one, .inl (k_this_one, 40, .inl w_42.2.1)), (a_this_reg, .inl (k_this_reg, 16, .inl w_42.2.2))] H := hP
                      have hD : va_D A [(a_this, oX8 a_this_bytes a_this_keys a_this_reg a_this_card a_this_filled a_this_taken a_this_line a_this_one a_this_two w_42.1), (a_this_bytes, .inl (k_this_bytes, 2048, .inl r_this_bytes)), (a_this_keys, .inl (k_this_keys, 8, .inl r_this_keys)), (a_this_one, .inl (k_this_one, 40, .inl w_42.2.1)), (a_this_reg, .inl (k_this_reg, 16, .inl w_42.2.2))] := hD
                      rw [q_let_of hw] at hF
                      refine lv_goto (tgt := 211) hx hb dX8_doIndexed_191 (by decide) ?_
                      exact hQ (w_42.1, r_this_bytes, w_42.2.1, w_42.2.2) _ _ _ _ dX8_doIndexed_211 hF.symm hP hD hS
                  · skip
                    rw [if_pos c_35] at hF
                    rw [if_pos c_35] at hs
                    refine lv_aload_n hx hb dX8_doIndexed_169 rfl (lv_at hl 2 rfl) ?_
                    refine lv_iload_n hx hb dX8_doIndexed_170 rfl (lv_at hl 3 rfl) ?_
                    refine lv_iload_n hx hb dX8_doIndexed_171 rfl (lv_at hl 4 rfl) ?_
                    refine lv_iload_n hx hb dX8_doIndexed_172 rfl (lv_at hl 5 rfl) ?_
                    have hi_43 := hs
                    refine q_Vv (rest := []) (c_X8_ways l D a_this a_this_reg a_this_bytes a_this_keys a_this_card a_this_filled a_this_taken a_this_line a_this_one a_this_two k_this_reg o_this r_this_reg p1 p2 p3 hi_43) cv_X8_ways hx hb hml hown ht hN hK hA hP hD hS hl.1 (km_X8_168) ⟨Nat.le_of_ble_eq_true rfl, Nat.le_of_ble_eq_true rfl⟩ rfl rfl [0, 4] (by decide) rfl [3] rfl (fun _ => rfl) (ci := 8) rfl rfl rfl rfl rfl (Nat.le_of_ble_eq_true rfl) dX8_doIndexed_173 ⟨Nat.zero_le _, Nat.zero_le _⟩ (fun w_44 H locs hw hP hD hS => ?_)
                    have hP : va_P D vwCl [(a_this, oX8 a_this_bytes a_this_keys a_this_reg a_this_card a_this_filled a_this_taken a_this_line a_this_one a_this_two w_44.1), (a_this_bytes, .inl (k_this_bytes, 2048, .inl r_this_bytes)), (a_this_keys, .inl (k_this_keys, 8, .inl r_this_keys)), (a_this_one, .inl (k_this_one, 40, .inl r_this_one)), (a_this_reg, .inl (k_this_reg, 16, .inl w_44.2))] H := hP
                    have hD : va_D A [(a_this, oX8 a_this_bytes a_this_keys a_this_reg a_this_card a_this_filled a_this_taken a_this_line a_this_one a_this_two w_44.1), (a_this_bytes, .inl (k_this_bytes, 2048, .inl r_this_bytes)), (a_this_keys, .inl (k_this_keys, 8, .inl r_this_keys)), (a_this_one, .inl (k_this_one, 40, .inl r_this_one)), (a_this_reg, .inl (k_this_reg, 16, .inl w_44.2))] := hD
                    rw [q_let_of hw] at hF
                    refine lv_goto (tgt := 211) hx hb dX8_doIndexed_176 (by decide) ?_
                    exact hQ (w_44.1, r_this_bytes, r_this_one, w_44.2) _ _ _ _ dX8_doIndexed_211 hF.symm hP hD hS
                · skip
                  rw [if_pos c_34] at hF
                  rw [if_pos c_34] at hs
                  refine lv_aload_n hx hb dX8_doIndexed_142 rfl (lv_at hl 2 rfl) ?_
                  refine gf_X8_16 (v := .ref a_this_reg) hx hb hown ht hK hP 0 rfl rfl dX8_doIndexed_143 ?_
                  refine lv_iload_n hx hb dX8_doIndexed_146 rfl (lv_at hl 4 rfl) ?_
                  refine lv_aload_n hx hb dX8_doIndexed_147 rfl (lv_at hl 2 rfl) ?_
                  refine gf_X8_16 (v := .ref a_this_reg) hx hb hown ht hK hP 0 rfl rfl dX8_doIndexed_148 ?_
                  refine lv_iload_n hx hb dX8_doIndexed_151 rfl (lv_at hl 4 rfl) ?_
                  obtain ⟨hi_45, hs⟩ := hs
                  refine va_iald hx hb hK hP 4 3 rfl rfl hi_45 dX8_doIndexed_152 ?_
                  refine lv_sipush (v := (-256)) hx hb dX8_doIndexed_153 (by decide) ?_
                  refine lv_iand hx hb dX8_doIndexed_156 ?_
                  refine lv_iload hx hb dX8_doIndexed_157 (lv_at hl 0 rfl) ?_
                  refine lv_iadd hx hb dX8_doIndexed_159 ?_
                  have hi_46 := hs
                  refine va_iast hx hb hK hP hD hS 4 3 rfl rfl hi_46 dX8_doIndexed_160 (fun H locs hP hD hS => ?_)
                  have hP : va_P D vwCl [(a_this, oX8 a_this_bytes a_this_keys a_this_reg a_this_card a_this_filled a_this_taken a_this_line a_this_one a_this_two o_this), (a_this_bytes, .inl (k_this_bytes, 2048, .inl r_this_bytes)), (a_this_keys, .inl (k_this_keys, 8, .inl r_this_keys)), (a_this_one, .inl (k_this_one, 40, .inl r_this_one)), (a_this_reg, .inl (k_this_reg, 16, .inl (upd r_this_reg p2.toNatClampNeg (((r_this_reg p2.toNatClampNeg) &&& ((-256) : Int32)) + (r_this_bytes p3.toNatClampNeg)))))] H := hP
                  have hD : va_D A [(a_this, oX8 a_this_bytes a_this_keys a_this_reg a_this_card a_this_filled a_this_taken a_this_line a_this_one a_this_two o_this), (a_this_bytes, .inl (k_this_bytes, 2048, .inl r_this_bytes)), (a_this_keys, .inl (k_this_keys, 8, .inl r_this_keys)), (a_this_one, .inl (k_this_one, 40, .inl r_this_one)), (a_this_reg, .inl (k_this_reg, 16, .inl (upd r_this_reg p2.toNatClampNeg (((r_this_reg p2.toNatClampNeg) &&& ((-256) : Int32)) + (r_this_bytes p3.toNatClampNeg)))))] := hD
                  refine lv_goto (tgt := 211) hx hb dX8_doIndexed_161 (by decide) ?_
                  exact hQ (o_this, r_this_bytes, r_this_one, (upd r_this_reg p2.toNatClampNeg (((r_this_reg p2.toNatClampNeg) &&& ((-256) : Int32)) + (r_this_bytes p3.toNatClampNeg)))) _ _ _ _ dX8_doIndexed_211 hF.symm hP hD hS
              · skip
                rw [if_pos c_33] at hF
                rw [if_pos c_33] at hs
                refine lv_aload_n hx hb dX8_doIndexed_117 rfl (lv_at hl 2 rfl) ?_
                refine gf_X8_7 (v := .ref a_this_bytes) hx hb hown ht hK hP 0 rfl rfl dX8_doIndexed_118 ?_
                refine lv_iload_n hx hb dX8_doIndexed_121 rfl (lv_at hl 5 rfl) ?_
                refine lv_aload_n hx hb dX8_doIndexed_122 rfl (lv_at hl 2 rfl) ?_
                refine gf_X8_16 (v := .ref a_this_reg) hx hb hown ht hK hP 0 rfl rfl dX8_doIndexed_123 ?_
                refine lv_iload_n hx hb dX8_doIndexed_126 rfl (lv_at hl 4 rfl) ?_
                obtain ⟨hi_47, hs⟩ := hs
                refine va_iald hx hb hK hP 4 3 rfl rfl hi_47 dX8_doIndexed_127 ?_
                refine lv_sipush (v := 255) hx hb dX8_doIndexed_128 (by decide) ?_
                refine lv_iand hx hb dX8_doIndexed_131 ?_
                have hi_48 := hs
                refine va_iast hx hb hK hP hD hS 1 0 rfl rfl hi_48 dX8_doIndexed_132 (fun H locs hP hD hS => ?_)
                have hP : va_P D vwCl [(a_this, oX8 a_this_bytes a_this_keys a_this_reg a_this_card a_this_filled a_this_taken a_this_line a_this_one a_this_two o_this), (a_this_bytes, .inl (k_this_bytes, 2048, .inl (upd r_this_bytes p3.toNatClampNeg ((r_this_reg p2.toNatClampNeg) &&& (255 : Int32))))), (a_this_keys, .inl (k_this_keys, 8, .inl r_this_keys)), (a_this_one, .inl (k_this_one, 40, .inl r_this_one)), (a_this_reg, .inl (k_this_reg, 16, .inl r_this_reg))] H := hP
                have hD : va_D A [(a_this, oX8 a_this_bytes a_this_keys a_this_reg a_this_card a_this_filled a_this_taken a_this_line a_this_one a_this_two o_this), (a_this_bytes, .inl (k_this_bytes, 2048, .inl (upd r_this_bytes p3.toNatClampNeg ((r_this_reg p2.toNatClampNeg) &&& (255 : Int32))))), (a_this_keys, .inl (k_this_keys, 8, .inl r_this_keys)), (a_this_one, .inl (k_this_one, 40, .inl r_this_one)), (a_this_reg, .inl (k_this_reg, 16, .inl r_this_reg))] := hD
                refine lv_goto (tgt := 211) hx hb dX8_doIndexed_133 (by decide) ?_
                exact hQ (o_this, (upd r_this_bytes p3.toNatClampNeg ((r_this_reg p2.toNatClampNeg) &&& (255 : Int32))), r_this_one, r_this_reg) _ _ _ _ dX8_doIndexed_211 hF.symm hP hD hS
            · skip
              rw [if_pos c_32] at hF
              rw [if_pos c_32] at hs
              refine lv_aload_n hx hb dX8_doIndexed_99 rfl (lv_at hl 2 rfl) ?_
              refine lv_iload_n hx hb dX8_doIndexed_100 rfl (lv_at hl 3 rfl) ?_
              refine lv_iload_n hx hb dX8_doIndexed_101 rfl (lv_at hl 4 rfl) ?_
              refine lv_iload_n hx hb dX8_doIndexed_102 rfl (lv_at hl 5 rfl) ?_
              refine lv_iload hx hb dX8_doIndexed_103 (lv_at hl 0 rfl) ?_
              have hi_49 := hs
              refine q_Vv (rest := []) (c_X8_numbers l D a_this a_this_bytes a_this_reg a_this_keys a_this_card a_this_filled a_this_taken a_this_line a_this_one a_this_two k_this_bytes k_this_reg o_this r_this_bytes r_this_reg p1 p2 p3 (r_this_bytes p3.toNatClampNeg) hi_49) cv_X8_numbers hx hb hml hown ht hN hK hA hP hD hS hl.1 (km_X8_165) ⟨Nat.le_of_ble_eq_true rfl, Nat.le_of_ble_eq_true rfl⟩ rfl rfl [0, 1, 4] (by decide) rfl [0, 3] rfl (fun _ => rfl) (ci := 8) rfl rfl rfl rfl rfl (Nat.le_of_ble_eq_true rfl) dX8_doIndexed_105 ⟨Nat.zero_le _, Nat.zero_le _⟩ (fun w_50 H locs hw hP hD hS => ?_)
              have hP : va_P D vwCl [(a_this, oX8 a_this_bytes a_this_keys a_this_reg a_this_card a_this_filled a_this_taken a_this_line a_this_one a_this_two w_50.1), (a_this_bytes, .inl (k_this_bytes, 2048, .inl w_50.2.1)), (a_this_keys, .inl (k_this_keys, 8, .inl r_this_keys)), (a_this_one, .inl (k_this_one, 40, .inl r_this_one)), (a_this_reg, .inl (k_this_reg, 16, .inl w_50.2.2))] H := hP
              have hD : va_D A [(a_this, oX8 a_this_bytes a_this_keys a_this_reg a_this_card a_this_filled a_this_taken a_this_line a_this_one a_this_two w_50.1), (a_this_bytes, .inl (k_this_bytes, 2048, .inl w_50.2.1)), (a_this_keys, .inl (k_this_keys, 8, .inl r_this_keys)), (a_this_one, .inl (k_this_one, 40, .inl r_this_one)), (a_this_reg, .inl (k_this_reg, 16, .inl w_50.2.2))] := hD
              rw [q_let_of hw] at hF
              refine lv_goto (tgt := 211) hx hb dX8_doIndexed_108 (by decide) ?_
              exact hQ (w_50.1, w_50.2.1, r_this_one, w_50.2.2) _ _ _ _ dX8_doIndexed_211 hF.symm hP hD hS
      · skip
        rw [if_pos c_4] at hF
        rw [if_pos c_4] at hs
        refine lv_aload_n hx hb dX8_doIndexed_57 rfl (lv_at hl 1 rfl) ?_
        refine lv_iload_n hx hb dX8_doIndexed_58 rfl (lv_at hl 4 rfl) ?_
        refine lv_iconst (v := 2) hx hb dX8_doIndexed_59 (by decide) ?_
        obtain ⟨hi_51, hs⟩ := hs
        refine q_Vi (rest := []) (c_X8_field l D a_this a_this_bytes a_this_keys a_this_reg a_this_card a_this_filled a_this_taken a_this_line a_this_one a_this_two k_this_bytes o_this r_this_bytes p3 2 hi_51) cv_X8_field hx hb hml hown ht hN hK hA hP hD hS hl.1 (km_X8_66) ⟨Nat.le_of_ble_eq_true rfl, Nat.le_of_ble_eq_true rfl⟩ rfl rfl [0, 1] (by decide) rfl [0] rfl (fun _ => rfl) (ci := 8) rfl rfl rfl rfl rfl (Nat.le_of_ble_eq_true rfl) dX8_doIndexed_60 ⟨Nat.zero_le _, Nat.zero_le _⟩ (fun r u H locs hw hP hD hS => ?_)
        obtain ⟨rfl, rfl⟩ := hw
        have hP : va_P D vwCl [(a_this, oX8 a_this_bytes a_this_keys a_this_reg a_this_card a_this_filled a_this_taken a_this_line a_this_one a_this_two o_this), (a_this_bytes, .inl (k_this_bytes, 2048, .inl r_this_bytes)), (a_this_keys, .inl (k_this_keys, 8, .inl r_this_keys)), (a_this_one, .inl (k_this_one, 40, .inl r_this_one)), (a_this_reg, .inl (k_this_reg, 16, .inl r_this_reg))] H := hP
        have hD : va_D A [(a_this, oX8 a_this_bytes a_this_keys a_this_reg a_this_card a_this_filled a_this_taken a_this_line a_this_one a_this_two o_this), (a_this_bytes, .inl (k_this_bytes, 2048, .inl r_this_bytes)), (a_this_keys, .inl (k_this_keys, 8, .inl r_this_keys)), (a_this_one, .inl (k_this_one, 40, .inl r_this_one)), (a_this_reg, .inl (k_this_reg, 16, .inl r_this_reg))] := hD
        refine q_Si (rest := []) (c_X8_signed l D (f_X8_field r_this_bytes p3 2)) cv_X8_signed hx hb hml hown ht hN hK hA hP hD hS hl.1 (km_X8_162) ⟨Nat.le_of_ble_eq_true rfl, Nat.le_of_ble_eq_true rfl⟩ rfl rfl [] (by decide) rfl [] rfl (fun _ => rfl) rfl rfl (Nat.le_of_ble_eq_true rfl) dX8_doIndexed_63 ⟨Nat.zero_le _, Nat.zero_le _⟩ (fun r u H locs hw hP hD hS => ?_)
        obtain ⟨rfl, rfl⟩ := hw
        have hP : va_P D vwCl [(a_this, oX8 a_this_bytes a_this_keys a_this_reg a_this_card a_this_filled a_this_taken a_this_line a_this_one a_this_two o_this), (a_this_bytes, .inl (k_this_bytes, 2048, .inl r_this_bytes)), (a_this_keys, .inl (k_this_keys, 8, .inl r_this_keys)), (a_this_one, .inl (k_this_one, 40, .inl r_this_one)), (a_this_reg, .inl (k_this_reg, 16, .inl r_this_reg))] H := hP
        have hD : va_D A [(a_this, oX8 a_this_bytes a_this_keys a_this_reg a_this_card a_this_filled a_this_taken a_this_line a_this_one a_this_two o_this), (a_this_bytes, .inl (k_this_bytes, 2048, .inl r_this_bytes)), (a_this_keys, .inl (k_this_keys, 8, .inl r_this_keys)), (a_this_one, .inl (k_this_one, 40, .inl r_this_one)), (a_this_reg, .inl (k_this_reg, 16, .inl r_this_reg))] := hD
        refine lv_goto (tgt := 85) hx hb dX8_doIndexed_66 (by decide) ?_
        refine lv_istore (lv' := [(5, .int (f_X8_signed (f_X8_field r_this_bytes p3 2))), (4, .int (f_X8_sizeOf p1)), (0, .ref a_this), (1, .int p1), (2, .int p2), (3, .int p3)]) hx hb dX8_doIndexed_85 hl (by decide) rfl (fun ls hl => ?_)
        refine lv_iload_n hx hb dX8_doIndexed_87 rfl (lv_at hl 3 rfl) ?_
        refine lv_bipush (v := 79) hx hb dX8_doIndexed_88 (by decide) ?_
        refine lv_icmp_gt (tgt := 99) hx hb dX8_doIndexed_90 (by decide) (fun c_54 => ?_) (fun c_54 => ?_)
        · skip
          rw [if_pos c_54] at hF
          rw [if_pos c_54] at hs
          refine lv_aload_n hx hb dX8_doIndexed_99 rfl (lv_at hl 2 rfl) ?_
          refine lv_iload_n hx hb dX8_doIndexed_100 rfl (lv_at hl 3 rfl) ?_
          refine lv_iload_n hx hb dX8_doIndexed_101 rfl (lv_at hl 4 rfl) ?_
          refine lv_iload_n hx hb dX8_doIndexed_102 rfl (lv_at hl 5 rfl) ?_
          refine lv_iload hx hb dX8_doIndexed_103 (lv_at hl 0 rfl) ?_
          have hi_55 := hs
          refine q_Vv (rest := []) (c_X8_numbers l D a_this a_this_bytes a_this_reg a_this_keys a_this_card a_this_filled a_this_taken a_this_line a_this_one a_this_two k_this_bytes k_this_reg o_this r_this_bytes r_this_reg p1 p2 p3 (f_X8_signed (f_X8_field r_this_bytes p3 2)) hi_55) cv_X8_numbers hx hb hml hown ht hN hK hA hP hD hS hl.1 (km_X8_165) ⟨Nat.le_of_ble_eq_true rfl, Nat.le_of_ble_eq_true rfl⟩ rfl rfl [0, 1, 4] (by decide) rfl [0, 3] rfl (fun _ => rfl) (ci := 8) rfl rfl rfl rfl rfl (Nat.le_of_ble_eq_true rfl) dX8_doIndexed_105 ⟨Nat.zero_le _, Nat.zero_le _⟩ (fun w_56 H locs hw hP hD hS => ?_)
          have hP : va_P D vwCl [(a_this, oX8 a_this_bytes a_this_keys a_this_reg a_this_card a_this_filled a_this_taken a_this_line a_this_one a_this_two w_56.1), (a_this_bytes, .inl (k_this_bytes, 2048, .inl w_56.2.1)), (a_this_keys, .inl (k_this_keys, 8, .inl r_this_keys)), (a_this_one, .inl (k_this_one, 40, .inl r_this_one)), (a_this_reg, .inl (k_this_reg, 16, .inl w_56.2.2))] H := hP
          have hD : va_D A [(a_this, oX8 a_this_bytes a_this_keys a_this_reg a_this_card a_this_filled a_this_taken a_this_line a_this_one a_this_two w_56.1), (a_this_bytes, .inl (k_this_bytes, 2048, .inl w_56.2.1)), (a_this_keys, .inl (k_this_keys, 8, .inl r_this_keys)), (a_this_one, .inl (k_this_one, 40, .inl r_this_one)), (a_this_reg, .inl (k_this_reg, 16, .inl w_56.2.2))] := hD
          rw [q_let_of hw] at hF
          refine lv_goto (tgt := 211) hx hb dX8_doIndexed_108 (by decide) ?_
          exact hQ (w_56.1, w_56.2.1, r_this_one, w_56.2.2) _ _ _ _ dX8_doIndexed_211 hF.symm hP hD hS
        · skip
          rw [if_neg c_54] at hF
          rw [if_neg c_54] at hs
          refine lv_iload hx hb dX8_doIndexed_93 (lv_at hl 1 rfl) ?_
          refine lv_iconst (v := 2) hx hb dX8_doIndexed_95 (by decide) ?_
          refine lv_icmp_ne (tgt := 111) hx hb dX8_doIndexed_96 (by decide) (fun c_57 => ?_) (fun c_57 => ?_)
          · skip
            rw [if_neg c_57] at hF
            rw [if_neg c_57] at hs
            refine lv_iload_n hx hb dX8_doIndexed_111 rfl (lv_at hl 3 rfl) ?_
            refine lv_bipush (v := 66) hx hb dX8_doIndexed_112 (by decide) ?_
            refine lv_icmp_ne (tgt := 136) hx hb dX8_doIndexed_114 (by decide) (fun c_58 => ?_) (fun c_58 => ?_)
            · skip
              rw [if_neg c_58] at hF
              rw [if_neg c_58] at hs
              refine lv_iload_n hx hb dX8_doIndexed_136 rfl (lv_at hl 3 rfl) ?_
              refine lv_bipush (v := 67) hx hb dX8_doIndexed_137 (by decide) ?_
              refine lv_icmp_ne (tgt := 164) hx hb dX8_doIndexed_139 (by decide) (fun c_59 => ?_) (fun c_59 => ?_)
              · skip
                rw [if_neg c_59] at hF
                rw [if_neg c_59] at hs
                refine lv_iload hx hb dX8_doIndexed_164 (lv_at hl 1 rfl) ?_
                refine lv_if_ne (tgt := 179) hx hb dX8_doIndexed_166 (by decide) (fun c_60 => ?_) (fun c_60 => ?_)
                · skip
                  rw [if_neg c_60] at hF
                  rw [if_neg c_60] at hs
                  refine lv_iload_n hx hb dX8_doIndexed_179 rfl (lv_at hl 3 rfl) ?_
                  refine lv_bipush (v := 79) hx hb dX8_doIndexed_180 (by decide) ?_
                  refine lv_icmp_ne (tgt := 194) hx hb dX8_doIndexed_182 (by decide) (fun c_61 => ?_) (fun c_61 => ?_)
                  · skip
                    rw [if_neg c_61] at hF
                    rw [if_neg c_61] at hs
                    refine lv_aload_n hx hb dX8_doIndexed_194 rfl (lv_at hl 2 rfl) ?_
                    refine lv_aload_n hx hb dX8_doIndexed_195 rfl (lv_at hl 2 rfl) ?_
                    refine gf_X8_16 (v := .ref a_this_reg) hx hb hown ht hK hP 0 rfl rfl dX8_doIndexed_196 ?_
                    refine lv_iload_n hx hb dX8_doIndexed_199 rfl (lv_at hl 4 rfl) ?_
                    obtain ⟨hi_62, hs⟩ := hs
                    refine va_iald hx hb hK hP 4 3 rfl rfl hi_62 dX8_doIndexed_200 ?_
                    refine q_Vv (rest := []) (c_X8_spread l D a_this a_this_one a_this_bytes a_this_keys a_this_reg a_this_card a_this_filled a_this_taken a_this_line a_this_two k_this_one o_this r_this_one (r_this_reg p2.toNatClampNeg)) cv_X8_spread hx hb hml hown ht hN hK hA hP hD hS hl.1 (km_X8_174) ⟨Nat.le_of_ble_eq_true rfl, Nat.le_of_ble_eq_true rfl⟩ rfl rfl [0, 3] (by decide) rfl [2] rfl (fun _ => rfl) (ci := 8) rfl rfl rfl rfl rfl (Nat.le_of_ble_eq_true rfl) dX8_doIndexed_201 ⟨Nat.zero_le _, Nat.zero_le _⟩ (fun w_63 H locs hw hP hD hS => ?_)
                    have hP : va_P D vwCl [(a_this, oX8 a_this_bytes a_this_keys a_this_reg a_this_card a_this_filled a_this_taken a_this_line a_this_one a_this_two o_this), (a_this_bytes, .inl (k_this_bytes, 2048, .inl r_this_bytes)), (a_this_keys, .inl (k_this_keys, 8, .inl r_this_keys)), (a_this_one, .inl (k_this_one, 40, .inl w_63)), (a_this_reg, .inl (k_this_reg, 16, .inl r_this_reg))] H := hP
                    have hD : va_D A [(a_this, oX8 a_this_bytes a_this_keys a_this_reg a_this_card a_this_filled a_this_taken a_this_line a_this_one a_this_two o_this), (a_this_bytes, .inl (k_this_bytes, 2048, .inl r_this_bytes)), (a_this_keys, .inl (k_this_keys, 8, .inl r_this_keys)), (a_this_one, .inl (k_this_one, 40, .inl w_63)), (a_this_reg, .inl (k_this_reg, 16, .inl r_this_reg))] := hD
                    rw [q_let_of hw] at hF
                    rw [q_let_of hw] at hs
                    refine lv_aload_n hx hb dX8_doIndexed_204 rfl (lv_at hl 2 rfl) ?_
                    refine lv_iload_n hx hb dX8_doIndexed_205 rfl (lv_at hl 5 rfl) ?_
                    refine lv_bipush (v := 8) hx hb dX8_doIndexed_206 (by decide) ?_
                    have hi_64 := hs
                    refine q_Vv (rest := []) (c_X8_store l D a_this a_this_bytes a_this_one a_this_keys a_this_reg a_this_card a_this_filled a_this_taken a_this_line a_this_two k_this_bytes k_this_one o_this r_this_bytes w_63 p3 8 hi_64) cv_X8_store hx hb hml hown ht hN hK hA hP hD hS hl.1 (km_X8_177) ⟨Nat.le_of_ble_eq_true rfl, Nat.le_of_ble_eq_true rfl⟩ rfl rfl [0, 1, 3] (by decide) rfl [0, 2] rfl (fun _ => rfl) (ci := 8) rfl rfl rfl rfl rfl (Nat.le_of_ble_eq_true rfl) dX8_doIndexed_208 ⟨Nat.zero_le _, Nat.zero_le _⟩ (fun w_65 H locs hw hP hD hS => ?_)
                    have hP : va_P D vwCl [(a_this, oX8 a_this_bytes a_this_keys a_this_reg a_this_card a_this_filled a_this_taken a_this_line a_this_one a_this_two o_this), (a_this_bytes, .inl (k_this_bytes, 2048, .inl w_65)), (a_this_keys, .inl (k_this_keys, 8, .inl r_this_keys)), (a_this_one, .inl (k_this_one, 40, .inl w_63)), (a_this_reg, .inl (k_this_reg, 16, .inl r_this_reg))] H := hP
                    have hD : va_D A [(a_this, oX8 a_this_bytes a_this_keys a_this_reg a_this_card a_this_filled a_this_taken a_this_line a_this_one a_this_two o_this), (a_this_bytes, .inl (k_this_bytes, 2048, .inl w_65)), (a_this_keys, .inl (k_this_keys, 8, .inl r_this_keys)), (a_this_one, .inl (k_this_one, 40, .inl w_63)), (a_this_reg, .inl (k_this_reg, 16, .inl r_this_reg))] := hD
                    rw [q_let_of hw] at hF
                    exact hQ (o_this, w_65, w_63, r_this_reg) _ _ _ _ dX8_doIndexed_211 hF.symm hP hD hS
                  · skip
                    rw [if_pos c_61] at hF
                    rw [if_pos c_61] at hs
                    refine lv_aload_n hx hb dX8_doIndexed_185 rfl (lv_at hl 2 rfl) ?_
                    refine lv_iload_n hx hb dX8_doIndexed_186 rfl (lv_at hl 4 rfl) ?_
                    refine lv_iload_n hx hb dX8_doIndexed_187 rfl (lv_at hl 5 rfl) ?_
                    have hi_66 := hs
                    refine q_Vv (rest := []) (c_X8_toBinary l D a_this a_this_bytes a_this_one a_this_reg a_this_keys a_this_card a_this_filled a_this_taken a_this_line a_this_two k_this_bytes k_this_one k_this_reg o_this r_this_bytes r_this_one r_this_reg p2 p3 hi_66) cv_X8_toBinary hx hb hml hown ht hN hK hA hP hD hS hl.1 (km_X8_171) ⟨Nat.le_of_ble_eq_true rfl, Nat.le_of_ble_eq_true rfl⟩ rfl rfl [0, 1, 3, 4] (by decide) rfl [0, 2, 3] rfl (fun _ => rfl) (ci := 8) rfl rfl rfl rfl rfl (Nat.le_of_ble_eq_true rfl) dX8_doIndexed_188 ⟨Nat.zero_le _, Nat.zero_le _⟩ (fun w_67 H locs hw hP hD hS => ?_)
                    have hP : va_P D vwCl [(a_this, oX8 a_this_bytes a_this_keys a_this_reg a_this_card a_this_filled a_this_taken a_this_line a_this_one a_this_two w_67.1), (a_this_bytes, .inl (k_this_bytes, 2048, .inl r_this_bytes)), (a_this_keys, .inl (k_this_keys, 8, .inl r_this_keys)), (a_this_one, .inl (k_this_one, 40, .inl w_67.2.1)), (a_this_reg, .inl (k_this_reg, 16, .inl w_67.2.2))] H := hP
                    have hD : va_D A [(a_this, oX8 a_this_bytes a_this_keys a_this_reg a_this_card a_this_filled a_this_taken a_this_line a_this_one a_this_two w_67.1), (a_this_bytes, .inl (k_this_bytes, 2048, .inl r_this_bytes)), (a_this_keys, .inl (k_this_keys, 8, .inl r_this_keys)), (a_this_one, .inl (k_this_one, 40, .inl w_67.2.1)), (a_this_reg, .inl (k_this_reg, 16, .inl w_67.2.2))] := hD
                    rw [q_let_of hw] at hF
                    refine lv_goto (tgt := 211) hx hb dX8_doIndexed_191 (by decide) ?_
                    exact hQ (w_67.1, r_this_bytes, w_67.2.1, w_67.2.2) _ _ _ _ dX8_doIndexed_211 hF.symm hP hD hS
                · skip
                  rw [if_pos c_60] at hF
                  rw [if_pos c_60] at hs
                  refine lv_aload_n hx hb dX8_doIndexed_169 rfl (lv_at hl 2 rfl) ?_
                  refine lv_iload_n hx hb dX8_doIndexed_170 rfl (lv_at hl 3 rfl) ?_
                  refine lv_iload_n hx hb dX8_doIndexed_171 rfl (lv_at hl 4 rfl) ?_
                  refine lv_iload_n hx hb dX8_doIndexed_172 rfl (lv_at hl 5 rfl) ?_
                  have hi_68 := hs
                  refine q_Vv (rest := []) (c_X8_ways l D a_this a_this_reg a_this_bytes a_this_keys a_this_card a_this_filled a_this_taken a_this_line a_this_one a_this_two k_this_reg o_this r_this_reg p1 p2 p3 hi_68) cv_X8_ways hx hb hml hown ht hN hK hA hP hD hS hl.1 (km_X8_168) ⟨Nat.le_of_ble_eq_true rfl, Nat.le_of_ble_eq_true rfl⟩ rfl rfl [0, 4] (by decide) rfl [3] rfl (fun _ => rfl) (ci := 8) rfl rfl rfl rfl rfl (Nat.le_of_ble_eq_true rfl) dX8_doIndexed_173 ⟨Nat.zero_le _, Nat.zero_le _⟩ (fun w_69 H locs hw hP hD hS => ?_)
                  have hP : va_P D vwCl [(a_this, oX8 a_this_bytes a_this_keys a_this_reg a_this_card a_this_filled a_this_taken a_this_line a_this_one a_this_two w_69.1), (a_this_bytes, .inl (k_this_bytes, 2048, .inl r_this_bytes)), (a_this_keys, .inl (k_this_keys, 8, .inl r_this_keys)), (a_this_one, .inl (k_this_one, 40, .inl r_this_one)), (a_this_reg, .inl (k_this_reg, 16, .inl w_69.2))] H := hP
                  have hD : va_D A [(a_this, oX8 a_this_bytes a_this_keys a_this_reg a_this_card a_this_filled a_this_taken a_this_line a_this_one a_this_two w_69.1), (a_this_bytes, .inl (k_this_bytes, 2048, .inl r_this_bytes)), (a_this_keys, .inl (k_this_keys, 8, .inl r_this_keys)), (a_this_one, .inl (k_this_one, 40, .inl r_this_one)), (a_this_reg, .inl (k_this_reg, 16, .inl w_69.2))] := hD
                  rw [q_let_of hw] at hF
                  refine lv_goto (tgt := 211) hx hb dX8_doIndexed_176 (by decide) ?_
                  exact hQ (w_69.1, r_this_bytes, r_this_one, w_69.2) _ _ _ _ dX8_doIndexed_211 hF.symm hP hD hS
              · skip
                rw [if_pos c_59] at hF
                rw [if_pos c_59] at hs
                refine lv_aload_n hx hb dX8_doIndexed_142 rfl (lv_at hl 2 rfl) ?_
                refine gf_X8_16 (v := .ref a_this_reg) hx hb hown ht hK hP 0 rfl rfl dX8_doIndexed_143 ?_
                refine lv_iload_n hx hb dX8_doIndexed_146 rfl (lv_at hl 4 rfl) ?_
                refine lv_aload_n hx hb dX8_doIndexed_147 rfl (lv_at hl 2 rfl) ?_
                refine gf_X8_16 (v := .ref a_this_reg) hx hb hown ht hK hP 0 rfl rfl dX8_doIndexed_148 ?_
                refine lv_iload_n hx hb dX8_doIndexed_151 rfl (lv_at hl 4 rfl) ?_
                obtain ⟨hi_70, hs⟩ := hs
                refine va_iald hx hb hK hP 4 3 rfl rfl hi_70 dX8_doIndexed_152 ?_
                refine lv_sipush (v := (-256)) hx hb dX8_doIndexed_153 (by decide) ?_
                refine lv_iand hx hb dX8_doIndexed_156 ?_
                refine lv_iload hx hb dX8_doIndexed_157 (lv_at hl 0 rfl) ?_
                refine lv_iadd hx hb dX8_doIndexed_159 ?_
                have hi_71 := hs
                refine va_iast hx hb hK hP hD hS 4 3 rfl rfl hi_71 dX8_doIndexed_160 (fun H locs hP hD hS => ?_)
                have hP : va_P D vwCl [(a_this, oX8 a_this_bytes a_this_keys a_this_reg a_this_card a_this_filled a_this_taken a_this_line a_this_one a_this_two o_this), (a_this_bytes, .inl (k_this_bytes, 2048, .inl r_this_bytes)), (a_this_keys, .inl (k_this_keys, 8, .inl r_this_keys)), (a_this_one, .inl (k_this_one, 40, .inl r_this_one)), (a_this_reg, .inl (k_this_reg, 16, .inl (upd r_this_reg p2.toNatClampNeg (((r_this_reg p2.toNatClampNeg) &&& ((-256) : Int32)) + (f_X8_signed (f_X8_field r_this_bytes p3 2))))))] H := hP
                have hD : va_D A [(a_this, oX8 a_this_bytes a_this_keys a_this_reg a_this_card a_this_filled a_this_taken a_this_line a_this_one a_this_two o_this), (a_this_bytes, .inl (k_this_bytes, 2048, .inl r_this_bytes)), (a_this_keys, .inl (k_this_keys, 8, .inl r_this_keys)), (a_this_one, .inl (k_this_one, 40, .inl r_this_one)), (a_this_reg, .inl (k_this_reg, 16, .inl (upd r_this_reg p2.toNatClampNeg (((r_this_reg p2.toNatClampNeg) &&& ((-256) : Int32)) + (f_X8_signed (f_X8_field r_this_bytes p3 2))))))] := hD
                refine lv_goto (tgt := 211) hx hb dX8_doIndexed_161 (by decide) ?_
                exact hQ (o_this, r_this_bytes, r_this_one, (upd r_this_reg p2.toNatClampNeg (((r_this_reg p2.toNatClampNeg) &&& ((-256) : Int32)) + (f_X8_signed (f_X8_field r_this_bytes p3 2))))) _ _ _ _ dX8_doIndexed_211 hF.symm hP hD hS
            · skip
              rw [if_pos c_58] at hF
              rw [if_pos c_58] at hs
              refine lv_aload_n hx hb dX8_doIndexed_117 rfl (lv_at hl 2 rfl) ?_
              refine gf_X8_7 (v := .ref a_this_bytes) hx hb hown ht hK hP 0 rfl rfl dX8_doIndexed_118 ?_
              refine lv_iload_n hx hb dX8_doIndexed_121 rfl (lv_at hl 5 rfl) ?_
              refine lv_aload_n hx hb dX8_doIndexed_122 rfl (lv_at hl 2 rfl) ?_
              refine gf_X8_16 (v := .ref a_this_reg) hx hb hown ht hK hP 0 rfl rfl dX8_doIndexed_123 ?_
              refine lv_iload_n hx hb dX8_doIndexed_126 rfl (lv_at hl 4 rfl) ?_
              obtain ⟨hi_72, hs⟩ := hs
              refine va_iald hx hb hK hP 4 3 rfl rfl hi_72 dX8_doIndexed_127 ?_
              refine lv_sipush (v := 255) hx hb dX8_doIndexed_128 (by decide) ?_
              refine lv_iand hx hb dX8_doIndexed_131 ?_
              have hi_73 := hs
              refine va_iast hx hb hK hP hD hS 1 0 rfl rfl hi_73 dX8_doIndexed_132 (fun H locs hP hD hS => ?_)
              have hP : va_P D vwCl [(a_this, oX8 a_this_bytes a_this_keys a_this_reg a_this_card a_this_filled a_this_taken a_this_line a_this_one a_this_two o_this), (a_this_bytes, .inl (k_this_bytes, 2048, .inl (upd r_this_bytes p3.toNatClampNeg ((r_this_reg p2.toNatClampNeg) &&& (255 : Int32))))), (a_this_keys, .inl (k_this_keys, 8, .inl r_this_keys)), (a_this_one, .inl (k_this_one, 40, .inl r_this_one)), (a_this_reg, .inl (k_this_reg, 16, .inl r_this_reg))] H := hP
              have hD : va_D A [(a_this, oX8 a_this_bytes a_this_keys a_this_reg a_this_card a_this_filled a_this_taken a_this_line a_this_one a_this_two o_this), (a_this_bytes, .inl (k_this_bytes, 2048, .inl (upd r_this_bytes p3.toNatClampNeg ((r_this_reg p2.toNatClampNeg) &&& (255 : Int32))))), (a_this_keys, .inl (k_this_keys, 8, .inl r_this_keys)), (a_this_one, .inl (k_this_one, 40, .inl r_this_one)), (a_this_reg, .inl (k_this_reg, 16, .inl r_this_reg))] := hD
              refine lv_goto (tgt := 211) hx hb dX8_doIndexed_133 (by decide) ?_
              exact hQ (o_this, (upd r_this_bytes p3.toNatClampNeg ((r_this_reg p2.toNatClampNeg) &&& (255 : Int32))), r_this_one, r_this_reg) _ _ _ _ dX8_doIndexed_211 hF.symm hP hD hS
          · skip
            rw [if_pos c_57] at hF
            rw [if_pos c_57] at hs
            refine lv_aload_n hx hb dX8_doIndexed_99 rfl (lv_at hl 2 rfl) ?_
            refine lv_iload_n hx hb dX8_doIndexed_100 rfl (lv_at hl 3 rfl) ?_
            refine lv_iload_n hx hb dX8_doIndexed_101 rfl (lv_at hl 4 rfl) ?_
            refine lv_iload_n hx hb dX8_doIndexed_102 rfl (lv_at hl 5 rfl) ?_
            refine lv_iload hx hb dX8_doIndexed_103 (lv_at hl 0 rfl) ?_
            have hi_74 := hs
            refine q_Vv (rest := []) (c_X8_numbers l D a_this a_this_bytes a_this_reg a_this_keys a_this_card a_this_filled a_this_taken a_this_line a_this_one a_this_two k_this_bytes k_this_reg o_this r_this_bytes r_this_reg p1 p2 p3 (f_X8_signed (f_X8_field r_this_bytes p3 2)) hi_74) cv_X8_numbers hx hb hml hown ht hN hK hA hP hD hS hl.1 (km_X8_165) ⟨Nat.le_of_ble_eq_true rfl, Nat.le_of_ble_eq_true rfl⟩ rfl rfl [0, 1, 4] (by decide) rfl [0, 3] rfl (fun _ => rfl) (ci := 8) rfl rfl rfl rfl rfl (Nat.le_of_ble_eq_true rfl) dX8_doIndexed_105 ⟨Nat.zero_le _, Nat.zero_le _⟩ (fun w_75 H locs hw hP hD hS => ?_)
            have hP : va_P D vwCl [(a_this, oX8 a_this_bytes a_this_keys a_this_reg a_this_card a_this_filled a_this_taken a_this_line a_this_one a_this_two w_75.1), (a_this_bytes, .inl (k_this_bytes, 2048, .inl w_75.2.1)), (a_this_keys, .inl (k_this_keys, 8, .inl r_this_keys)), (a_this_one, .inl (k_this_one, 40, .inl r_this_one)), (a_this_reg, .inl (k_this_reg, 16, .inl w_75.2.2))] H := hP
            have hD : va_D A [(a_this, oX8 a_this_bytes a_this_keys a_this_reg a_this_card a_this_filled a_this_taken a_this_line a_this_one a_this_two w_75.1), (a_this_bytes, .inl (k_this_bytes, 2048, .inl w_75.2.1)), (a_this_keys, .inl (k_this_keys, 8, .inl r_this_keys)), (a_this_one, .inl (k_this_one, 40, .inl r_this_one)), (a_this_reg, .inl (k_this_reg, 16, .inl w_75.2.2))] := hD
            rw [q_let_of hw] at hF
            refine lv_goto (tgt := 211) hx hb dX8_doIndexed_108 (by decide) ?_
            exact hQ (w_75.1, w_75.2.1, r_this_one, w_75.2.2) _ _ _ _ dX8_doIndexed_211 hF.symm hP hD hS
    · skip
      rw [if_pos c_3] at hF
      rw [if_pos c_3] at hs
      refine lv_aload_n hx hb dX8_doIndexed_42 rfl (lv_at hl 1 rfl) ?_
      refine lv_iload_n hx hb dX8_doIndexed_43 rfl (lv_at hl 4 rfl) ?_
      refine lv_iconst (v := 4) hx hb dX8_doIndexed_44 (by decide) ?_
      obtain ⟨hi_76, hs⟩ := hs
      refine q_Vi (rest := []) (c_X8_field l D a_this a_this_bytes a_this_keys a_this_reg a_this_card a_this_filled a_this_taken a_this_line a_this_one a_this_two k_this_bytes o_this r_this_bytes p3 4 hi_76) cv_X8_field hx hb hml hown ht hN hK hA hP hD hS hl.1 (km_X8_66) ⟨Nat.le_of_ble_eq_true rfl, Nat.le_of_ble_eq_true rfl⟩ rfl rfl [0, 1] (by decide) rfl [0] rfl (fun _ => rfl) (ci := 8) rfl rfl rfl rfl rfl (Nat.le_of_ble_eq_true rfl) dX8_doIndexed_45 ⟨Nat.zero_le _, Nat.zero_le _⟩ (fun r u H locs hw hP hD hS => ?_)
      obtain ⟨rfl, rfl⟩ := hw
      have hP : va_P D vwCl [(a_this, oX8 a_this_bytes a_this_keys a_this_reg a_this_card a_this_filled a_this_taken a_this_line a_this_one a_this_two o_this), (a_this_bytes, .inl (k_this_bytes, 2048, .inl r_this_bytes)), (a_this_keys, .inl (k_this_keys, 8, .inl r_this_keys)), (a_this_one, .inl (k_this_one, 40, .inl r_this_one)), (a_this_reg, .inl (k_this_reg, 16, .inl r_this_reg))] H := hP
      have hD : va_D A [(a_this, oX8 a_this_bytes a_this_keys a_this_reg a_this_card a_this_filled a_this_taken a_this_line a_this_one a_this_two o_this), (a_this_bytes, .inl (k_this_bytes, 2048, .inl r_this_bytes)), (a_this_keys, .inl (k_this_keys, 8, .inl r_this_keys)), (a_this_one, .inl (k_this_one, 40, .inl r_this_one)), (a_this_reg, .inl (k_this_reg, 16, .inl r_this_reg))] := hD
      refine lv_goto (tgt := 85) hx hb dX8_doIndexed_48 (by decide) ?_
      refine lv_istore (lv' := [(5, .int (f_X8_field r_this_bytes p3 4)), (4, .int (f_X8_sizeOf p1)), (0, .ref a_this), (1, .int p1), (2, .int p2), (3, .int p3)]) hx hb dX8_doIndexed_85 hl (by decide) rfl (fun ls hl => ?_)
      refine lv_iload_n hx hb dX8_doIndexed_87 rfl (lv_at hl 3 rfl) ?_
      refine lv_bipush (v := 79) hx hb dX8_doIndexed_88 (by decide) ?_
      refine lv_icmp_gt (tgt := 99) hx hb dX8_doIndexed_90 (by decide) (fun c_78 => ?_) (fun c_78 => ?_)
      · skip
        rw [if_pos c_78] at hF
        rw [if_pos c_78] at hs
        refine lv_aload_n hx hb dX8_doIndexed_99 rfl (lv_at hl 2 rfl) ?_
        refine lv_iload_n hx hb dX8_doIndexed_100 rfl (lv_at hl 3 rfl) ?_
        refine lv_iload_n hx hb dX8_doIndexed_101 rfl (lv_at hl 4 rfl) ?_
        refine lv_iload_n hx hb dX8_doIndexed_102 rfl (lv_at hl 5 rfl) ?_
        refine lv_iload hx hb dX8_doIndexed_103 (lv_at hl 0 rfl) ?_
        have hi_79 := hs
        refine q_Vv (rest := []) (c_X8_numbers l D a_this a_this_bytes a_this_reg a_this_keys a_this_card a_this_filled a_this_taken a_this_line a_this_one a_this_two k_this_bytes k_this_reg o_this r_this_bytes r_this_reg p1 p2 p3 (f_X8_field r_this_bytes p3 4) hi_79) cv_X8_numbers hx hb hml hown ht hN hK hA hP hD hS hl.1 (km_X8_165) ⟨Nat.le_of_ble_eq_true rfl, Nat.le_of_ble_eq_true rfl⟩ rfl rfl [0, 1, 4] (by decide) rfl [0, 3] rfl (fun _ => rfl) (ci := 8) rfl rfl rfl rfl rfl (Nat.le_of_ble_eq_true rfl) dX8_doIndexed_105 ⟨Nat.zero_le _, Nat.zero_le _⟩ (fun w_80 H locs hw hP hD hS => ?_)
        have hP : va_P D vwCl [(a_this, oX8 a_this_bytes a_this_keys a_this_reg a_this_card a_this_filled a_this_taken a_this_line a_this_one a_this_two w_80.1), (a_this_bytes, .inl (k_this_bytes, 2048, .inl w_80.2.1)), (a_this_keys, .inl (k_this_keys, 8, .inl r_this_keys)), (a_this_one, .inl (k_this_one, 40, .inl r_this_one)), (a_this_reg, .inl (k_this_reg, 16, .inl w_80.2.2))] H := hP
        have hD : va_D A [(a_this, oX8 a_this_bytes a_this_keys a_this_reg a_this_card a_this_filled a_this_taken a_this_line a_this_one a_this_two w_80.1), (a_this_bytes, .inl (k_this_bytes, 2048, .inl w_80.2.1)), (a_this_keys, .inl (k_this_keys, 8, .inl r_this_keys)), (a_this_one, .inl (k_this_one, 40, .inl r_this_one)), (a_this_reg, .inl (k_this_reg, 16, .inl w_80.2.2))] := hD
        rw [q_let_of hw] at hF
        refine lv_goto (tgt := 211) hx hb dX8_doIndexed_108 (by decide) ?_
        exact hQ (w_80.1, w_80.2.1, r_this_one, w_80.2.2) _ _ _ _ dX8_doIndexed_211 hF.symm hP hD hS
      · skip
        rw [if_neg c_78] at hF
        rw [if_neg c_78] at hs
        refine lv_iload hx hb dX8_doIndexed_93 (lv_at hl 1 rfl) ?_
        refine lv_iconst (v := 2) hx hb dX8_doIndexed_95 (by decide) ?_
        refine lv_icmp_ne (tgt := 111) hx hb dX8_doIndexed_96 (by decide) (fun c_81 => ?_) (fun c_81 => ?_)
        · skip
          rw [if_neg c_81] at hF
          rw [if_neg c_81] at hs
          refine lv_iload_n hx hb dX8_doIndexed_111 rfl (lv_at hl 3 rfl) ?_
          refine lv_bipush (v := 66) hx hb dX8_doIndexed_112 (by decide) ?_
          refine lv_icmp_ne (tgt := 136) hx hb dX8_doIndexed_114 (by decide) (fun c_82 => ?_) (fun c_82 => ?_)
          · skip
            rw [if_neg c_82] at hF
            rw [if_neg c_82] at hs
            refine lv_iload_n hx hb dX8_doIndexed_136 rfl (lv_at hl 3 rfl) ?_
            refine lv_bipush (v := 67) hx hb dX8_doIndexed_137 (by decide) ?_
            refine lv_icmp_ne (tgt := 164) hx hb dX8_doIndexed_139 (by decide) (fun c_83 => ?_) (fun c_83 => ?_)
            · skip
              rw [if_neg c_83] at hF
              rw [if_neg c_83] at hs
              refine lv_iload hx hb dX8_doIndexed_164 (lv_at hl 1 rfl) ?_
              refine lv_if_ne (tgt := 179) hx hb dX8_doIndexed_166 (by decide) (fun c_84 => ?_) (fun c_84 => ?_)
              · skip
                rw [if_neg c_84] at hF
                rw [if_neg c_84] at hs
                refine lv_iload_n hx hb dX8_doIndexed_179 rfl (lv_at hl 3 rfl) ?_
                refine lv_bipush (v := 79) hx hb dX8_doIndexed_180 (by decide) ?_
                refine lv_icmp_ne (tgt := 194) hx hb dX8_doIndexed_182 (by decide) (fun c_85 => ?_) (fun c_85 => ?_)
                · skip
                  rw [if_neg c_85] at hF
                  rw [if_neg c_85] at hs
                  refine lv_aload_n hx hb dX8_doIndexed_194 rfl (lv_at hl 2 rfl) ?_
                  refine lv_aload_n hx hb dX8_doIndexed_195 rfl (lv_at hl 2 rfl) ?_
                  refine gf_X8_16 (v := .ref a_this_reg) hx hb hown ht hK hP 0 rfl rfl dX8_doIndexed_196 ?_
                  refine lv_iload_n hx hb dX8_doIndexed_199 rfl (lv_at hl 4 rfl) ?_
                  obtain ⟨hi_86, hs⟩ := hs
                  refine va_iald hx hb hK hP 4 3 rfl rfl hi_86 dX8_doIndexed_200 ?_
                  refine q_Vv (rest := []) (c_X8_spread l D a_this a_this_one a_this_bytes a_this_keys a_this_reg a_this_card a_this_filled a_this_taken a_this_line a_this_two k_this_one o_this r_this_one (r_this_reg p2.toNatClampNeg)) cv_X8_spread hx hb hml hown ht hN hK hA hP hD hS hl.1 (km_X8_174) ⟨Nat.le_of_ble_eq_true rfl, Nat.le_of_ble_eq_true rfl⟩ rfl rfl [0, 3] (by decide) rfl [2] rfl (fun _ => rfl) (ci := 8) rfl rfl rfl rfl rfl (Nat.le_of_ble_eq_true rfl) dX8_doIndexed_201 ⟨Nat.zero_le _, Nat.zero_le _⟩ (fun w_87 H locs hw hP hD hS => ?_)
                  have hP : va_P D vwCl [(a_this, oX8 a_this_bytes a_this_keys a_this_reg a_this_card a_this_filled a_this_taken a_this_line a_this_one a_this_two o_this), (a_this_bytes, .inl (k_this_bytes, 2048, .inl r_this_bytes)), (a_this_keys, .inl (k_this_keys, 8, .inl r_this_keys)), (a_this_one, .inl (k_this_one, 40, .inl w_87)), (a_this_reg, .inl (k_this_reg, 16, .inl r_this_reg))] H := hP
                  have hD : va_D A [(a_this, oX8 a_this_bytes a_this_keys a_this_reg a_this_card a_this_filled a_this_taken a_this_line a_this_one a_this_two o_this), (a_this_bytes, .inl (k_this_bytes, 2048, .inl r_this_bytes)), (a_this_keys, .inl (k_this_keys, 8, .inl r_this_keys)), (a_this_one, .inl (k_this_one, 40, .inl w_87)), (a_this_reg, .inl (k_this_reg, 16, .inl r_this_reg))] := hD
                  rw [q_let_of hw] at hF
                  rw [q_let_of hw] at hs
                  refine lv_aload_n hx hb dX8_doIndexed_204 rfl (lv_at hl 2 rfl) ?_
                  refine lv_iload_n hx hb dX8_doIndexed_205 rfl (lv_at hl 5 rfl) ?_
                  refine lv_bipush (v := 8) hx hb dX8_doIndexed_206 (by decide) ?_
                  have hi_88 := hs
                  refine q_Vv (rest := []) (c_X8_store l D a_this a_this_bytes a_this_one a_this_keys a_this_reg a_this_card a_this_filled a_this_taken a_this_line a_this_two k_this_bytes k_this_one o_this r_this_bytes w_87 p3 8 hi_88) cv_X8_store hx hb hml hown ht hN hK hA hP hD hS hl.1 (km_X8_177) ⟨Nat.le_of_ble_eq_true rfl, Nat.le_of_ble_eq_true rfl⟩ rfl rfl [0, 1, 3] (by decide) rfl [0, 2] rfl (fun _ => rfl) (ci := 8) rfl rfl rfl rfl rfl (Nat.le_of_ble_eq_true rfl) dX8_doIndexed_208 ⟨Nat.zero_le _, Nat.zero_le _⟩ (fun w_89 H locs hw hP hD hS => ?_)
                  have hP : va_P D vwCl [(a_this, oX8 a_this_bytes a_this_keys a_this_reg a_this_card a_this_filled a_this_taken a_this_line a_this_one a_this_two o_this), (a_this_bytes, .inl (k_this_bytes, 2048, .inl w_89)), (a_this_keys, .inl (k_this_keys, 8, .inl r_this_keys)), (a_this_one, .inl (k_this_one, 40, .inl w_87)), (a_this_reg, .inl (k_this_reg, 16, .inl r_this_reg))] H := hP
                  have hD : va_D A [(a_this, oX8 a_this_bytes a_this_keys a_this_reg a_this_card a_this_filled a_this_taken a_this_line a_this_one a_this_two o_this), (a_this_bytes, .inl (k_this_bytes, 2048, .inl w_89)), (a_this_keys, .inl (k_this_keys, 8, .inl r_this_keys)), (a_this_one, .inl (k_this_one, 40, .inl w_87)), (a_this_reg, .inl (k_this_reg, 16, .inl r_this_reg))] := hD
                  rw [q_let_of hw] at hF
                  exact hQ (o_this, w_89, w_87, r_this_reg) _ _ _ _ dX8_doIndexed_211 hF.symm hP hD hS
                · skip
                  rw [if_pos c_85] at hF
                  rw [if_pos c_85] at hs
                  refine lv_aload_n hx hb dX8_doIndexed_185 rfl (lv_at hl 2 rfl) ?_
                  refine lv_iload_n hx hb dX8_doIndexed_186 rfl (lv_at hl 4 rfl) ?_
                  refine lv_iload_n hx hb dX8_doIndexed_187 rfl (lv_at hl 5 rfl) ?_
                  have hi_90 := hs
                  refine q_Vv (rest := []) (c_X8_toBinary l D a_this a_this_bytes a_this_one a_this_reg a_this_keys a_this_card a_this_filled a_this_taken a_this_line a_this_two k_this_bytes k_this_one k_this_reg o_this r_this_bytes r_this_one r_this_reg p2 p3 hi_90) cv_X8_toBinary hx hb hml hown ht hN hK hA hP hD hS hl.1 (km_X8_171) ⟨Nat.le_of_ble_eq_true rfl, Nat.le_of_ble_eq_true rfl⟩ rfl rfl [0, 1, 3, 4] (by decide) rfl [0, 2, 3] rfl (fun _ => rfl) (ci := 8) rfl rfl rfl rfl rfl (Nat.le_of_ble_eq_true rfl) dX8_doIndexed_188 ⟨Nat.zero_le _, Nat.zero_le _⟩ (fun w_91 H locs hw hP hD hS => ?_)
                  have hP : va_P D vwCl [(a_this, oX8 a_this_bytes a_this_keys a_this_reg a_this_card a_this_filled a_this_taken a_this_line a_this_one a_this_two w_91.1), (a_this_bytes, .inl (k_this_bytes, 2048, .inl r_this_bytes)), (a_this_keys, .inl (k_this_keys, 8, .inl r_this_keys)), (a_this_one, .inl (k_this_one, 40, .inl w_91.2.1)), (a_this_reg, .inl (k_this_reg, 16, .inl w_91.2.2))] H := hP
                  have hD : va_D A [(a_this, oX8 a_this_bytes a_this_keys a_this_reg a_this_card a_this_filled a_this_taken a_this_line a_this_one a_this_two w_91.1), (a_this_bytes, .inl (k_this_bytes, 2048, .inl r_this_bytes)), (a_this_keys, .inl (k_this_keys, 8, .inl r_this_keys)), (a_this_one, .inl (k_this_one, 40, .inl w_91.2.1)), (a_this_reg, .inl (k_this_reg, 16, .inl w_91.2.2))] := hD
                  rw [q_let_of hw] at hF
                  refine lv_goto (tgt := 211) hx hb dX8_doIndexed_191 (by decide) ?_
                  exact hQ (w_91.1, r_this_bytes, w_91.2.1, w_91.2.2) _ _ _ _ dX8_doIndexed_211 hF.symm hP hD hS
              · skip
                rw [if_pos c_84] at hF
                rw [if_pos c_84] at hs
                refine lv_aload_n hx hb dX8_doIndexed_169 rfl (lv_at hl 2 rfl) ?_
                refine lv_iload_n hx hb dX8_doIndexed_170 rfl (lv_at hl 3 rfl) ?_
                refine lv_iload_n hx hb dX8_doIndexed_171 rfl (lv_at hl 4 rfl) ?_
                refine lv_iload_n hx hb dX8_doIndexed_172 rfl (lv_at hl 5 rfl) ?_
                have hi_92 := hs
                refine q_Vv (rest := []) (c_X8_ways l D a_this a_this_reg a_this_bytes a_this_keys a_this_card a_this_filled a_this_taken a_this_line a_this_one a_this_two k_this_reg o_this r_this_reg p1 p2 p3 hi_92) cv_X8_ways hx hb hml hown ht hN hK hA hP hD hS hl.1 (km_X8_168) ⟨Nat.le_of_ble_eq_true rfl, Nat.le_of_ble_eq_true rfl⟩ rfl rfl [0, 4] (by decide) rfl [3] rfl (fun _ => rfl) (ci := 8) rfl rfl rfl rfl rfl (Nat.le_of_ble_eq_true rfl) dX8_doIndexed_173 ⟨Nat.zero_le _, Nat.zero_le _⟩ (fun w_93 H locs hw hP hD hS => ?_)
                have hP : va_P D vwCl [(a_this, oX8 a_this_bytes a_this_keys a_this_reg a_this_card a_this_filled a_this_taken a_this_line a_this_one a_this_two w_93.1), (a_this_bytes, .inl (k_this_bytes, 2048, .inl r_this_bytes)), (a_this_keys, .inl (k_this_keys, 8, .inl r_this_keys)), (a_this_one, .inl (k_this_one, 40, .inl r_this_one)), (a_this_reg, .inl (k_this_reg, 16, .inl w_93.2))] H := hP
                have hD : va_D A [(a_this, oX8 a_this_bytes a_this_keys a_this_reg a_this_card a_this_filled a_this_taken a_this_line a_this_one a_this_two w_93.1), (a_this_bytes, .inl (k_this_bytes, 2048, .inl r_this_bytes)), (a_this_keys, .inl (k_this_keys, 8, .inl r_this_keys)), (a_this_one, .inl (k_this_one, 40, .inl r_this_one)), (a_this_reg, .inl (k_this_reg, 16, .inl w_93.2))] := hD
                rw [q_let_of hw] at hF
                refine lv_goto (tgt := 211) hx hb dX8_doIndexed_176 (by decide) ?_
                exact hQ (w_93.1, r_this_bytes, r_this_one, w_93.2) _ _ _ _ dX8_doIndexed_211 hF.symm hP hD hS
            · skip
              rw [if_pos c_83] at hF
              rw [if_pos c_83] at hs
              refine lv_aload_n hx hb dX8_doIndexed_142 rfl (lv_at hl 2 rfl) ?_
              refine gf_X8_16 (v := .ref a_this_reg) hx hb hown ht hK hP 0 rfl rfl dX8_doIndexed_143 ?_
              refine lv_iload_n hx hb dX8_doIndexed_146 rfl (lv_at hl 4 rfl) ?_
              refine lv_aload_n hx hb dX8_doIndexed_147 rfl (lv_at hl 2 rfl) ?_
              refine gf_X8_16 (v := .ref a_this_reg) hx hb hown ht hK hP 0 rfl rfl dX8_doIndexed_148 ?_
              refine lv_iload_n hx hb dX8_doIndexed_151 rfl (lv_at hl 4 rfl) ?_
              obtain ⟨hi_94, hs⟩ := hs
              refine va_iald hx hb hK hP 4 3 rfl rfl hi_94 dX8_doIndexed_152 ?_
              refine lv_sipush (v := (-256)) hx hb dX8_doIndexed_153 (by decide) ?_
              refine lv_iand hx hb dX8_doIndexed_156 ?_
              refine lv_iload hx hb dX8_doIndexed_157 (lv_at hl 0 rfl) ?_
              refine lv_iadd hx hb dX8_doIndexed_159 ?_
              have hi_95 := hs
              refine va_iast hx hb hK hP hD hS 4 3 rfl rfl hi_95 dX8_doIndexed_160 (fun H locs hP hD hS => ?_)
              have hP : va_P D vwCl [(a_this, oX8 a_this_bytes a_this_keys a_this_reg a_this_card a_this_filled a_this_taken a_this_line a_this_one a_this_two o_this), (a_this_bytes, .inl (k_this_bytes, 2048, .inl r_this_bytes)), (a_this_keys, .inl (k_this_keys, 8, .inl r_this_keys)), (a_this_one, .inl (k_this_one, 40, .inl r_this_one)), (a_this_reg, .inl (k_this_reg, 16, .inl (upd r_this_reg p2.toNatClampNeg (((r_this_reg p2.toNatClampNeg) &&& ((-256) : Int32)) + (f_X8_field r_this_bytes p3 4)))))] H := hP
              have hD : va_D A [(a_this, oX8 a_this_bytes a_this_keys a_this_reg a_this_card a_this_filled a_this_taken a_this_line a_this_one a_this_two o_this), (a_this_bytes, .inl (k_this_bytes, 2048, .inl r_this_bytes)), (a_this_keys, .inl (k_this_keys, 8, .inl r_this_keys)), (a_this_one, .inl (k_this_one, 40, .inl r_this_one)), (a_this_reg, .inl (k_this_reg, 16, .inl (upd r_this_reg p2.toNatClampNeg (((r_this_reg p2.toNatClampNeg) &&& ((-256) : Int32)) + (f_X8_field r_this_bytes p3 4)))))] := hD
              refine lv_goto (tgt := 211) hx hb dX8_doIndexed_161 (by decide) ?_
              exact hQ (o_this, r_this_bytes, r_this_one, (upd r_this_reg p2.toNatClampNeg (((r_this_reg p2.toNatClampNeg) &&& ((-256) : Int32)) + (f_X8_field r_this_bytes p3 4)))) _ _ _ _ dX8_doIndexed_211 hF.symm hP hD hS
          · skip
            rw [if_pos c_82] at hF
            rw [if_pos c_82] at hs
            refine lv_aload_n hx hb dX8_doIndexed_117 rfl (lv_at hl 2 rfl) ?_
            refine gf_X8_7 (v := .ref a_this_bytes) hx hb hown ht hK hP 0 rfl rfl dX8_doIndexed_118 ?_
            refine lv_iload_n hx hb dX8_doIndexed_121 rfl (lv_at hl 5 rfl) ?_
            refine lv_aload_n hx hb dX8_doIndexed_122 rfl (lv_at hl 2 rfl) ?_
            refine gf_X8_16 (v := .ref a_this_reg) hx hb hown ht hK hP 0 rfl rfl dX8_doIndexed_123 ?_
            refine lv_iload_n hx hb dX8_doIndexed_126 rfl (lv_at hl 4 rfl) ?_
            obtain ⟨hi_96, hs⟩ := hs
            refine va_iald hx hb hK hP 4 3 rfl rfl hi_96 dX8_doIndexed_127 ?_
            refine lv_sipush (v := 255) hx hb dX8_doIndexed_128 (by decide) ?_
            refine lv_iand hx hb dX8_doIndexed_131 ?_
            have hi_97 := hs
            refine va_iast hx hb hK hP hD hS 1 0 rfl rfl hi_97 dX8_doIndexed_132 (fun H locs hP hD hS => ?_)
            have hP : va_P D vwCl [(a_this, oX8 a_this_bytes a_this_keys a_this_reg a_this_card a_this_filled a_this_taken a_this_line a_this_one a_this_two o_this), (a_this_bytes, .inl (k_this_bytes, 2048, .inl (upd r_this_bytes p3.toNatClampNeg ((r_this_reg p2.toNatClampNeg) &&& (255 : Int32))))), (a_this_keys, .inl (k_this_keys, 8, .inl r_this_keys)), (a_this_one, .inl (k_this_one, 40, .inl r_this_one)), (a_this_reg, .inl (k_this_reg, 16, .inl r_this_reg))] H := hP
            have hD : va_D A [(a_this, oX8 a_this_bytes a_this_keys a_this_reg a_this_card a_this_filled a_this_taken a_this_line a_this_one a_this_two o_this), (a_this_bytes, .inl (k_this_bytes, 2048, .inl (upd r_this_bytes p3.toNatClampNeg ((r_this_reg p2.toNatClampNeg) &&& (255 : Int32))))), (a_this_keys, .inl (k_this_keys, 8, .inl r_this_keys)), (a_this_one, .inl (k_this_one, 40, .inl r_this_one)), (a_this_reg, .inl (k_this_reg, 16, .inl r_this_reg))] := hD
            refine lv_goto (tgt := 211) hx hb dX8_doIndexed_133 (by decide) ?_
            exact hQ (o_this, (upd r_this_bytes p3.toNatClampNeg ((r_this_reg p2.toNatClampNeg) &&& (255 : Int32))), r_this_one, r_this_reg) _ _ _ _ dX8_doIndexed_211 hF.symm hP hD hS
        · skip
          rw [if_pos c_81] at hF
          rw [if_pos c_81] at hs
          refine lv_aload_n hx hb dX8_doIndexed_99 rfl (lv_at hl 2 rfl) ?_
          refine lv_iload_n hx hb dX8_doIndexed_100 rfl (lv_at hl 3 rfl) ?_
          refine lv_iload_n hx hb dX8_doIndexed_101 rfl (lv_at hl 4 rfl) ?_
          refine lv_iload_n hx hb dX8_doIndexed_102 rfl (lv_at hl 5 rfl) ?_
          refine lv_iload hx hb dX8_doIndexed_103 (lv_at hl 0 rfl) ?_
          have hi_98 := hs
          refine q_Vv (rest := []) (c_X8_numbers l D a_this a_this_bytes a_this_reg a_this_keys a_this_card a_this_filled a_this_taken a_this_line a_this_one a_this_two k_this_bytes k_this_reg o_this r_this_bytes r_this_reg p1 p2 p3 (f_X8_field r_this_bytes p3 4) hi_98) cv_X8_numbers hx hb hml hown ht hN hK hA hP hD hS hl.1 (km_X8_165) ⟨Nat.le_of_ble_eq_true rfl, Nat.le_of_ble_eq_true rfl⟩ rfl rfl [0, 1, 4] (by decide) rfl [0, 3] rfl (fun _ => rfl) (ci := 8) rfl rfl rfl rfl rfl (Nat.le_of_ble_eq_true rfl) dX8_doIndexed_105 ⟨Nat.zero_le _, Nat.zero_le _⟩ (fun w_99 H locs hw hP hD hS => ?_)
          have hP : va_P D vwCl [(a_this, oX8 a_this_bytes a_this_keys a_this_reg a_this_card a_this_filled a_this_taken a_this_line a_this_one a_this_two w_99.1), (a_this_bytes, .inl (k_this_bytes, 2048, .inl w_99.2.1)), (a_this_keys, .inl (k_this_keys, 8, .inl r_this_keys)), (a_this_one, .inl (k_this_one, 40, .inl r_this_one)), (a_this_reg, .inl (k_this_reg, 16, .inl w_99.2.2))] H := hP
          have hD : va_D A [(a_this, oX8 a_this_bytes a_this_keys a_this_reg a_this_card a_this_filled a_this_taken a_this_line a_this_one a_this_two w_99.1), (a_this_bytes, .inl (k_this_bytes, 2048, .inl w_99.2.1)), (a_this_keys, .inl (k_this_keys, 8, .inl r_this_keys)), (a_this_one, .inl (k_this_one, 40, .inl r_this_one)), (a_this_reg, .inl (k_this_reg, 16, .inl w_99.2.2))] := hD
          rw [q_let_of hw] at hF
          refine lv_goto (tgt := 211) hx hb dX8_doIndexed_108 (by decide) ?_
          exact hQ (w_99.1, w_99.2.1, r_this_one, w_99.2.2) _ _ _ _ dX8_doIndexed_211 hF.symm hP hD hS
  · skip
    rw [if_neg c_2] at hF
    rw [if_neg c_2] at hs
    refine lv_aload_n hx hb dX8_doIndexed_11 rfl (lv_at hl 1 rfl) ?_
    refine lv_iload_n hx hb dX8_doIndexed_12 rfl (lv_at hl 4 rfl) ?_
    refine lv_iload hx hb dX8_doIndexed_13 (lv_at hl 0 rfl) ?_
    refine lv_iload hx hb dX8_doIndexed_15 (lv_at hl 0 rfl) ?_
    refine lv_iload_n hx hb dX8_doIndexed_17 rfl (lv_at hl 2 rfl) ?_
    refine lv_bipush (v := 64) hx hb dX8_doIndexed_18 (by decide) ?_
    refine lv_bipush (v := 66) hx hb dX8_doIndexed_20 (by decide) ?_
    refine lv_bipush (v := 78) hx hb dX8_doIndexed_22 (by decide) ?_
    refine lv_bipush (v := 80) hx hb dX8_doIndexed_24 (by decide) ?_
    refine q_Si (rest := [.int (f_X8_sizeOf p1), .int (f_X8_sizeOf p1), .int p3, .ref a_this]) (c_X8_among l D p1 64 66 78 80) cv_X8_among hx hb hml hown ht hN hK hA hP hD hS hl.1 (km_X8_115) ⟨Nat.le_of_ble_eq_true rfl, Nat.le_of_ble_eq_true rfl⟩ rfl rfl [] (by decide) rfl [] rfl (fun _ => rfl) rfl rfl (Nat.le_of_ble_eq_true rfl) dX8_doIndexed_26 ⟨Nat.zero_le _, Nat.zero_le _⟩ (fun r u H locs hw hP hD hS => ?_)
    obtain ⟨rfl, rfl⟩ := hw
    have hP : va_P D vwCl [(a_this, oX8 a_this_bytes a_this_keys a_this_reg a_this_card a_this_filled a_this_taken a_this_line a_this_one a_this_two o_this), (a_this_bytes, .inl (k_this_bytes, 2048, .inl r_this_bytes)), (a_this_keys, .inl (k_this_keys, 8, .inl r_this_keys)), (a_this_one, .inl (k_this_one, 40, .inl r_this_one)), (a_this_reg, .inl (k_this_reg, 16, .inl r_this_reg))] H := hP
    have hD : va_D A [(a_this, oX8 a_this_bytes a_this_keys a_this_reg a_this_card a_this_filled a_this_taken a_this_line a_this_one a_this_two o_this), (a_this_bytes, .inl (k_this_bytes, 2048, .inl r_this_bytes)), (a_this_keys, .inl (k_this_keys, 8, .inl r_this_keys)), (a_this_one, .inl (k_this_one, 40, .inl r_this_one)), (a_this_reg, .inl (k_this_reg, 16, .inl r_this_reg))] := hD
    obtain ⟨hi_101, hs⟩ := hs
    refine q_Vi (rest := []) (c_X8_good l D a_this a_this_keys a_this_bytes a_this_reg a_this_card a_this_filled a_this_taken a_this_line a_this_one a_this_two k_this_keys o_this r_this_keys p3 (f_X8_sizeOf p1) (f_X8_sizeOf p1) (f_X8_among p1 64 66 78 80) hi_101) cv_X8_good hx hb hml hown ht hN hK hA hP hD hS hl.1 (km_X8_158) ⟨Nat.le_of_ble_eq_true rfl, Nat.le_of_ble_eq_true rfl⟩ rfl rfl [0, 2] (by decide) rfl [1] rfl (fun _ => rfl) (ci := 8) rfl rfl rfl rfl rfl (Nat.le_of_ble_eq_true rfl) dX8_doIndexed_29 ⟨Nat.zero_le _, Nat.zero_le _⟩ (fun r w_102 H locs hw hP hD hS => ?_)
    obtain ⟨hw, hr⟩ := hw
    subst hr
    have hP : va_P D vwCl [(a_this, oX8 a_this_bytes a_this_keys a_this_reg a_this_card a_this_filled a_this_taken a_this_line a_this_one a_this_two w_102.2), (a_this_bytes, .inl (k_this_bytes, 2048, .inl r_this_bytes)), (a_this_keys, .inl (k_this_keys, 8, .inl r_this_keys)), (a_this_one, .inl (k_this_one, 40, .inl r_this_one)), (a_this_reg, .inl (k_this_reg, 16, .inl r_this_reg))] H := hP
    have hD : va_D A [(a_this, oX8 a_this_bytes a_this_keys a_this_reg a_this_card a_this_filled a_this_taken a_this_line a_this_one a_this_two w_102.2), (a_this_bytes, .inl (k_this_bytes, 2048, .inl r_this_bytes)), (a_this_keys, .inl (k_this_keys, 8, .inl r_this_keys)), (a_this_one, .inl (k_this_one, 40, .inl r_this_one)), (a_this_reg, .inl (k_this_reg, 16, .inl r_this_reg))] := hD
    rw [q_let_of hw] at hF
    rw [q_let_of hw] at hs
    refine lv_if_ne (tgt := 36) hx hb dX8_doIndexed_32 (by decide) (fun c_103 => ?_) (fun c_103 => ?_)
    · have c_103 := (bI_ne0 _).mp c_103
      rw [if_pos c_103] at hF
      rw [if_pos c_103] at hs
      refine lv_iload hx hb dX8_doIndexed_36 (lv_at hl 0 rfl) ?_
      refine lv_iconst (v := 4) hx hb dX8_doIndexed_38 (by decide) ?_
      refine lv_icmp_ne (tgt := 51) hx hb dX8_doIndexed_39 (by decide) (fun c_104 => ?_) (fun c_104 => ?_)
      · skip
        rw [if_neg c_104] at hF
        rw [if_neg c_104] at hs
        refine lv_iload hx hb dX8_doIndexed_51 (lv_at hl 0 rfl) ?_
        refine lv_iconst (v := 2) hx hb dX8_doIndexed_53 (by decide) ?_
        refine lv_icmp_ne (tgt := 69) hx hb dX8_doIndexed_54 (by decide) (fun c_105 => ?_) (fun c_105 => ?_)
        · skip
          rw [if_neg c_105] at hF
          rw [if_neg c_105] at hs
          refine lv_iload hx hb dX8_doIndexed_69 (lv_at hl 0 rfl) ?_
          refine lv_iconst (v := 1) hx hb dX8_doIndexed_71 (by decide) ?_
          refine lv_icmp_ne (tgt := 84) hx hb dX8_doIndexed_72 (by decide) (fun c_106 => ?_) (fun c_106 => ?_)
          · skip
            rw [if_neg c_106] at hF
            rw [if_neg c_106] at hs
            refine lv_iconst (v := 0) hx hb dX8_doIndexed_84 (by decide) ?_
            refine lv_istore (lv' := [(5, .int 0), (4, .int (f_X8_sizeOf p1)), (0, .ref a_this), (1, .int p1), (2, .int p2), (3, .int p3)]) hx hb dX8_doIndexed_85 hl (by decide) rfl (fun ls hl => ?_)
            refine lv_iload_n hx hb dX8_doIndexed_87 rfl (lv_at hl 3 rfl) ?_
            refine lv_bipush (v := 79) hx hb dX8_doIndexed_88 (by decide) ?_
            refine lv_icmp_gt (tgt := 99) hx hb dX8_doIndexed_90 (by decide) (fun c_107 => ?_) (fun c_107 => ?_)
            · skip
              rw [if_pos c_107] at hF
              rw [if_pos c_107] at hs
              refine lv_aload_n hx hb dX8_doIndexed_99 rfl (lv_at hl 2 rfl) ?_
              refine lv_iload_n hx hb dX8_doIndexed_100 rfl (lv_at hl 3 rfl) ?_
              refine lv_iload_n hx hb dX8_doIndexed_101 rfl (lv_at hl 4 rfl) ?_
              refine lv_iload_n hx hb dX8_doIndexed_102 rfl (lv_at hl 5 rfl) ?_
              refine lv_iload hx hb dX8_doIndexed_103 (lv_at hl 0 rfl) ?_
              have hi_108 := hs
              refine q_Vv (rest := []) (c_X8_numbers l D a_this a_this_bytes a_this_reg a_this_keys a_this_card a_this_filled a_this_taken a_this_line a_this_one a_this_two k_this_bytes k_this_reg w_102.2 r_this_bytes r_this_reg p1 p2 p3 0 hi_108) cv_X8_numbers hx hb hml hown ht hN hK hA hP hD hS hl.1 (km_X8_165) ⟨Nat.le_of_ble_eq_true rfl, Nat.le_of_ble_eq_true rfl⟩ rfl rfl [0, 1, 4] (by decide) rfl [0, 3] rfl (fun _ => rfl) (ci := 8) rfl rfl rfl rfl rfl (Nat.le_of_ble_eq_true rfl) dX8_doIndexed_105 ⟨Nat.zero_le _, Nat.zero_le _⟩ (fun w_109 H locs hw hP hD hS => ?_)
              have hP : va_P D vwCl [(a_this, oX8 a_this_bytes a_this_keys a_this_reg a_this_card a_this_filled a_this_taken a_this_line a_this_one a_this_two w_109.1), (a_this_bytes, .inl (k_this_bytes, 2048, .inl w_109.2.1)), (a_this_keys, .inl (k_this_keys, 8, .inl r_this_keys)), (a_this_one, .inl (k_this_one, 40, .inl r_this_one)), (a_this_reg, .inl (k_this_reg, 16, .inl w_109.2.2))] H := hP
              have hD : va_D A [(a_this, oX8 a_this_bytes a_this_keys a_this_reg a_this_card a_this_filled a_this_taken a_this_line a_this_one a_this_two w_109.1), (a_this_bytes, .inl (k_this_bytes, 2048, .inl w_109.2.1)), (a_this_keys, .inl (k_this_keys, 8, .inl r_this_keys)), (a_this_one, .inl (k_this_one, 40, .inl r_this_one)), (a_this_reg, .inl (k_this_reg, 16, .inl w_109.2.2))] := hD
              rw [q_let_of hw] at hF
              refine lv_goto (tgt := 211) hx hb dX8_doIndexed_108 (by decide) ?_
              exact hQ (w_109.1, w_109.2.1, r_this_one, w_109.2.2) _ _ _ _ dX8_doIndexed_211 hF.symm hP hD hS
            · skip
              rw [if_neg c_107] at hF
              rw [if_neg c_107] at hs
              refine lv_iload hx hb dX8_doIndexed_93 (lv_at hl 1 rfl) ?_
              refine lv_iconst (v := 2) hx hb dX8_doIndexed_95 (by decide) ?_
              refine lv_icmp_ne (tgt := 111) hx hb dX8_doIndexed_96 (by decide) (fun c_110 => ?_) (fun c_110 => ?_)
              · skip
                rw [if_neg c_110] at hF
                rw [if_neg c_110] at hs
                refine lv_iload_n hx hb dX8_doIndexed_111 rfl (lv_at hl 3 rfl) ?_
                refine lv_bipush (v := 66) hx hb dX8_doIndexed_112 (by decide) ?_
                refine lv_icmp_ne (tgt := 136) hx hb dX8_doIndexed_114 (by decide) (fun c_111 => ?_) (fun c_111 => ?_)
                · skip
                  rw [if_neg c_111] at hF
                  rw [if_neg c_111] at hs
                  refine lv_iload_n hx hb dX8_doIndexed_136 rfl (lv_at hl 3 rfl) ?_
                  refine lv_bipush (v := 67) hx hb dX8_doIndexed_137 (by decide) ?_
                  refine lv_icmp_ne (tgt := 164) hx hb dX8_doIndexed_139 (by decide) (fun c_112 => ?_) (fun c_112 => ?_)
                  · skip
                    rw [if_neg c_112] at hF
                    rw [if_neg c_112] at hs
                    refine lv_iload hx hb dX8_doIndexed_164 (lv_at hl 1 rfl) ?_
                    refine lv_if_ne (tgt := 179) hx hb dX8_doIndexed_166 (by decide) (fun c_113 => ?_) (fun c_113 => ?_)
                    · skip
                      rw [if_neg c_113] at hF
                      rw [if_neg c_113] at hs
                      refine lv_iload_n hx hb dX8_doIndexed_179 rfl (lv_at hl 3 rfl) ?_
                      refine lv_bipush (v := 79) hx hb dX8_doIndexed_180 (by decide) ?_
                      refine lv_icmp_ne (tgt := 194) hx hb dX8_doIndexed_182 (by decide) (fun c_114 => ?_) (fun c_114 => ?_)
                      · skip
                        rw [if_neg c_114] at hF
                        rw [if_neg c_114] at hs
                        refine lv_aload_n hx hb dX8_doIndexed_194 rfl (lv_at hl 2 rfl) ?_
                        refine lv_aload_n hx hb dX8_doIndexed_195 rfl (lv_at hl 2 rfl) ?_
                        refine gf_X8_16 (v := .ref a_this_reg) hx hb hown ht hK hP 0 rfl rfl dX8_doIndexed_196 ?_
                        refine lv_iload_n hx hb dX8_doIndexed_199 rfl (lv_at hl 4 rfl) ?_
                        obtain ⟨hi_115, hs⟩ := hs
                        refine va_iald hx hb hK hP 4 3 rfl rfl hi_115 dX8_doIndexed_200 ?_
                        refine q_Vv (rest := []) (c_X8_spread l D a_this a_this_one a_this_bytes a_this_keys a_this_reg a_this_card a_this_filled a_this_taken a_this_line a_this_two k_this_one w_102.2 r_this_one (r_this_reg p2.toNatClampNeg)) cv_X8_spread hx hb hml hown ht hN hK hA hP hD hS hl.1 (km_X8_174) ⟨Nat.le_of_ble_eq_true rfl, Nat.le_of_ble_eq_true rfl⟩ rfl rfl [0, 3] (by decide) rfl [2] rfl (fun _ => rfl) (ci := 8) rfl rfl rfl rfl rfl (Nat.le_of_ble_eq_true rfl) dX8_doIndexed_201 ⟨Nat.zero_le _, Nat.zero_le _⟩ (fun w_116 H locs hw hP hD hS => ?_)
                        have hP : va_P D vwCl [(a_this, oX8 a_this_bytes a_this_keys a_this_reg a_this_card a_this_filled a_this_taken a_this_line a_this_one a_this_two w_102.2), (a_this_bytes, .inl (k_this_bytes, 2048, .inl r_this_bytes)), (a_this_keys, .inl (k_this_keys, 8, .inl r_this_keys)), (a_this_one, .inl (k_this_one, 40, .inl w_116)), (a_this_reg, .inl (k_this_reg, 16, .inl r_this_reg))] H := hP
                        have hD : va_D A [(a_this, oX8 a_this_bytes a_this_keys a_this_reg a_this_card a_this_filled a_this_taken a_this_line a_this_one a_this_two w_102.2), (a_this_bytes, .inl (k_this_bytes, 2048, .inl r_this_bytes)), (a_this_keys, .inl (k_this_keys, 8, .inl r_this_keys)), (a_this_one, .inl (k_this_one, 40, .inl w_116)), (a_this_reg, .inl (k_this_reg, 16, .inl r_this_reg))] := hD
                        rw [q_let_of hw] at hF
                        rw [q_let_of hw] at hs
                        refine lv_aload_n hx hb dX8_doIndexed_204 rfl (lv_at hl 2 rfl) ?_
                        refine lv_iload_n hx hb dX8_doIndexed_205 rfl (lv_at hl 5 rfl) ?_
                        refine lv_bipush (v := 8) hx hb dX8_doIndexed_206 (by decide) ?_
                        have hi_117 := hs
                        refine q_Vv (rest := []) (c_X8_store l D a_this a_this_bytes a_this_one a_this_keys a_this_reg a_this_card a_this_filled a_this_taken a_this_line a_this_two k_this_bytes k_this_one w_102.2 r_this_bytes w_116 p3 8 hi_117) cv_X8_store hx hb hml hown ht hN hK hA hP hD hS hl.1 (km_X8_177) ⟨Nat.le_of_ble_eq_true rfl, Nat.le_of_ble_eq_true rfl⟩ rfl rfl [0, 1, 3] (by decide) rfl [0, 2] rfl (fun _ => rfl) (ci := 8) rfl rfl rfl rfl rfl (Nat.le_of_ble_eq_true rfl) dX8_doIndexed_208 ⟨Nat.zero_le _, Nat.zero_le _⟩ (fun w_118 H locs hw hP hD hS => ?_)
                        have hP : va_P D vwCl [(a_this, oX8 a_this_bytes a_this_keys a_this_reg a_this_card a_this_filled a_this_taken a_this_line a_this_one a_this_two w_102.2), (a_this_bytes, .inl (k_this_bytes, 2048, .inl w_118)), (a_this_keys, .inl (k_this_keys, 8, .inl r_this_keys)), (a_this_one, .inl (k_this_one, 40, .inl w_116)), (a_this_reg, .inl (k_this_reg, 16, .inl r_this_reg))] H := hP
                        have hD : va_D A [(a_this, oX8 a_this_bytes a_this_keys a_this_reg a_this_card a_this_filled a_this_taken a_this_line a_this_one a_this_two w_102.2), (a_this_bytes, .inl (k_this_bytes, 2048, .inl w_118)), (a_this_keys, .inl (k_this_keys, 8, .inl r_this_keys)), (a_this_one, .inl (k_this_one, 40, .inl w_116)), (a_this_reg, .inl (k_this_reg, 16, .inl r_this_reg))] := hD
                        rw [q_let_of hw] at hF
                        exact hQ (w_102.2, w_118, w_116, r_this_reg) _ _ _ _ dX8_doIndexed_211 hF.symm hP hD hS
                      · skip
                        rw [if_pos c_114] at hF
                        rw [if_pos c_114] at hs
                        refine lv_aload_n hx hb dX8_doIndexed_185 rfl (lv_at hl 2 rfl) ?_
                        refine lv_iload_n hx hb dX8_doIndexed_186 rfl (lv_at hl 4 rfl) ?_
                        refine lv_iload_n hx hb dX8_doIndexed_187 rfl (lv_at hl 5 rfl) ?_
                        have hi_119 := hs
                        refine q_Vv (rest := []) (c_X8_toBinary l D a_this a_this_bytes a_this_one a_this_reg a_this_keys a_this_card a_this_filled a_this_taken a_this_line a_this_two k_this_bytes k_this_one k_this_reg w_102.2 r_this_bytes r_this_one r_this_reg p2 p3 hi_119) cv_X8_toBinary hx hb hml hown ht hN hK hA hP hD hS hl.1 (km_X8_171) ⟨Nat.le_of_ble_eq_true rfl, Nat.le_of_ble_eq_true rfl⟩ rfl rfl [0, 1, 3, 4] (by decide) rfl [0, 2, 3] rfl (fun _ => rfl) (ci := 8) rfl rfl rfl rfl rfl (Nat.le_of_ble_eq_true rfl) dX8_doIndexed_188 ⟨Nat.zero_le _, Nat.zero_le _⟩ (fun w_120 H locs hw hP hD hS => ?_)
                        have hP : va_P D vwCl [(a_this, oX8 a_this_bytes a_this_keys a_this_reg a_this_card a_this_filled a_this_taken a_this_line a_this_one a_this_two w_120.1), (a_this_bytes, .inl (k_this_bytes, 2048, .inl r_this_bytes)), (a_this_keys, .inl (k_this_keys, 8, .inl r_this_keys)), (a_this_one, .inl (k_this_one, 40, .inl w_120.2.1)), (a_this_reg, .inl (k_this_reg, 16, .inl w_120.2.2))] H := hP
                        have hD : va_D A [(a_this, oX8 a_this_bytes a_this_keys a_this_reg a_this_card a_this_filled a_this_taken a_this_line a_this_one a_this_two w_120.1), (a_this_bytes, .inl (k_this_bytes, 2048, .inl r_this_bytes)), (a_this_keys, .inl (k_this_keys, 8, .inl r_this_keys)), (a_this_one, .inl (k_this_one, 40, .inl w_120.2.1)), (a_this_reg, .inl (k_this_reg, 16, .inl w_120.2.2))] := hD
                        rw [q_let_of hw] at hF
                        refine lv_goto (tgt := 211) hx hb dX8_doIndexed_191 (by decide) ?_
                        exact hQ (w_120.1, r_this_bytes, w_120.2.1, w_120.2.2) _ _ _ _ dX8_doIndexed_211 hF.symm hP hD hS
                    · skip
                      rw [if_pos c_113] at hF
                      rw [if_pos c_113] at hs
                      refine lv_aload_n hx hb dX8_doIndexed_169 rfl (lv_at hl 2 rfl) ?_
                      refine lv_iload_n hx hb dX8_doIndexed_170 rfl (lv_at hl 3 rfl) ?_
                      refine lv_iload_n hx hb dX8_doIndexed_171 rfl (lv_at hl 4 rfl) ?_
                      refine lv_iload_n hx hb dX8_doIndexed_172 rfl (lv_at hl 5 rfl) ?_
                      have hi_121 := hs
                      refine q_Vv (rest := []) (c_X8_ways l D a_this a_this_reg a_this_bytes a_this_keys a_this_card a_this_filled a_this_taken a_this_line a_this_one a_this_two k_this_reg w_102.2 r_this_reg p1 p2 p3 hi_121) cv_X8_ways hx hb hml hown ht hN hK hA hP hD hS hl.1 (km_X8_168) ⟨Nat.le_of_ble_eq_true rfl, Nat.le_of_ble_eq_true rfl⟩ rfl rfl [0, 4] (by decide) rfl [3] rfl (fun _ => rfl) (ci := 8) rfl rfl rfl rfl rfl (Nat.le_of_ble_eq_true rfl) dX8_doIndexed_173 ⟨Nat.zero_le _, Nat.zero_le _⟩ (fun w_122 H locs hw hP hD hS => ?_)
                      have hP : va_P D vwCl [(a_this, oX8 a_this_bytes a_this_keys a_this_reg a_this_card a_this_filled a_this_taken a_this_line a_this_one a_this_two w_122.1), (a_this_bytes, .inl (k_this_bytes, 2048, .inl r_this_bytes)), (a_this_keys, .inl (k_this_keys, 8, .inl r_this_keys)), (a_this_one, .inl (k_this_one, 40, .inl r_this_one)), (a_this_reg, .inl (k_this_reg, 16, .inl w_122.2))] H := hP
                      have hD : va_D A [(a_this, oX8 a_this_bytes a_this_keys a_this_reg a_this_card a_this_filled a_this_taken a_this_line a_this_one a_this_two w_122.1), (a_this_bytes, .inl (k_this_bytes, 2048, .inl r_this_bytes)), (a_this_keys, .inl (k_this_keys, 8, .inl r_this_keys)), (a_this_one, .inl (k_this_one, 40, .inl r_this_one)), (a_this_reg, .inl (k_this_reg, 16, .inl w_122.2))] := hD
                      rw [q_let_of hw] at hF
                      refine lv_goto (tgt := 211) hx hb dX8_doIndexed_176 (by decide) ?_
                      exact hQ (w_122.1, r_this_bytes, r_this_one, w_122.2) _ _ _ _ dX8_doIndexed_211 hF.symm hP hD hS
                  · skip
                    rw [if_pos c_112] at hF
                    rw [if_pos c_112] at hs
                    refine lv_aload_n hx hb dX8_doIndexed_142 rfl (lv_at hl 2 rfl) ?_
                    refine gf_X8_16 (v := .ref a_this_reg) hx hb hown ht hK hP 0 rfl rfl dX8_doIndexed_143 ?_
                    refine lv_iload_n hx hb dX8_doIndexed_146 rfl (lv_at hl 4 rfl) ?_
                    refine lv_aload_n hx hb dX8_doIndexed_147 rfl (lv_at hl 2 rfl) ?_
                    refine gf_X8_16 (v := .ref a_this_reg) hx hb hown ht hK hP 0 rfl rfl dX8_doIndexed_148 ?_
                    refine lv_iload_n hx hb dX8_doIndexed_151 rfl (lv_at hl 4 rfl) ?_
                    obtain ⟨hi_123, hs⟩ := hs
                    refine va_iald hx hb hK hP 4 3 rfl rfl hi_123 dX8_doIndexed_152 ?_
                    refine lv_sipush (v := (-256)) hx hb dX8_doIndexed_153 (by decide) ?_
                    refine lv_iand hx hb dX8_doIndexed_156 ?_
                    refine lv_iload hx hb dX8_doIndexed_157 (lv_at hl 0 rfl) ?_
                    refine lv_iadd hx hb dX8_doIndexed_159 ?_
                    have hi_124 := hs
                    refine va_iast hx hb hK hP hD hS 4 3 rfl rfl hi_124 dX8_doIndexed_160 (fun H locs hP hD hS => ?_)
                    have hP : va_P D vwCl [(a_this, oX8 a_this_bytes a_this_keys a_this_reg a_this_card a_this_filled a_this_taken a_this_line a_this_one a_this_two w_102.2), (a_this_bytes, .inl (k_this_bytes, 2048, .inl r_this_bytes)), (a_this_keys, .inl (k_this_keys, 8, .inl r_this_keys)), (a_this_one, .inl (k_this_one, 40, .inl r_this_one)), (a_this_reg, .inl (k_this_reg, 16, .inl (upd r_this_reg p2.toNatClampNeg (((r_this_reg p2.toNatClampNeg) &&& ((-256) : Int32)) + (0 : Int32)))))] H := hP
                    have hD : va_D A [(a_this, oX8 a_this_bytes a_this_keys a_this_reg a_this_card a_this_filled a_this_taken a_this_line a_this_one a_this_two w_102.2), (a_this_bytes, .inl (k_this_bytes, 2048, .inl r_this_bytes)), (a_this_keys, .inl (k_this_keys, 8, .inl r_this_keys)), (a_this_one, .inl (k_this_one, 40, .inl r_this_one)), (a_this_reg, .inl (k_this_reg, 16, .inl (upd r_this_reg p2.toNatClampNeg (((r_this_reg p2.toNatClampNeg) &&& ((-256) : Int32)) + (0 : Int32)))))] := hD
                    refine lv_goto (tgt := 211) hx hb dX8_doIndexed_161 (by decide) ?_
                    exact hQ (w_102.2, r_this_bytes, r_this_one, (upd r_this_reg p2.toNatClampNeg (((r_this_reg p2.toNatClampNeg) &&& ((-256) : Int32)) + (0 : Int32)))) _ _ _ _ dX8_doIndexed_211 hF.symm hP hD hS
                · skip
                  rw [if_pos c_111] at hF
                  rw [if_pos c_111] at hs
                  refine lv_aload_n hx hb dX8_doIndexed_117 rfl (lv_at hl 2 rfl) ?_
                  refine gf_X8_7 (v := .ref a_this_bytes) hx hb hown ht hK hP 0 rfl rfl dX8_doIndexed_118 ?_
                  refine lv_iload_n hx hb dX8_doIndexed_121 rfl (lv_at hl 5 rfl) ?_
                  refine lv_aload_n hx hb dX8_doIndexed_122 rfl (lv_at hl 2 rfl) ?_
                  refine gf_X8_16 (v := .ref a_this_reg) hx hb hown ht hK hP 0 rfl rfl dX8_doIndexed_123 ?_
                  refine lv_iload_n hx hb dX8_doIndexed_126 rfl (lv_at hl 4 rfl) ?_
                  obtain ⟨hi_125, hs⟩ := hs
                  refine va_iald hx hb hK hP 4 3 rfl rfl hi_125 dX8_doIndexed_127 ?_
                  refine lv_sipush (v := 255) hx hb dX8_doIndexed_128 (by decide) ?_
                  refine lv_iand hx hb dX8_doIndexed_131 ?_
                  have hi_126 := hs
                  refine va_iast hx hb hK hP hD hS 1 0 rfl rfl hi_126 dX8_doIndexed_132 (fun H locs hP hD hS => ?_)
                  have hP : va_P D vwCl [(a_this, oX8 a_this_bytes a_this_keys a_this_reg a_this_card a_this_filled a_this_taken a_this_line a_this_one a_this_two w_102.2), (a_this_bytes, .inl (k_this_bytes, 2048, .inl (upd r_this_bytes p3.toNatClampNeg ((r_this_reg p2.toNatClampNeg) &&& (255 : Int32))))), (a_this_keys, .inl (k_this_keys, 8, .inl r_this_keys)), (a_this_one, .inl (k_this_one, 40, .inl r_this_one)), (a_this_reg, .inl (k_this_reg, 16, .inl r_this_reg))] H := hP
                  have hD : va_D A [(a_this, oX8 a_this_bytes a_this_keys a_this_reg a_this_card a_this_filled a_this_taken a_this_line a_this_one a_this_two w_102.2), (a_this_bytes, .inl (k_this_bytes, 2048, .inl (upd r_this_bytes p3.toNatClampNeg ((r_this_reg p2.toNatClampNeg) &&& (255 : Int32))))), (a_this_keys, .inl (k_this_keys, 8, .inl r_this_keys)), (a_this_one, .inl (k_this_one, 40, .inl r_this_one)), (a_this_reg, .inl (k_this_reg, 16, .inl r_this_reg))] := hD
                  refine lv_goto (tgt := 211) hx hb dX8_doIndexed_133 (by decide) ?_
                  exact hQ (w_102.2, (upd r_this_bytes p3.toNatClampNeg ((r_this_reg p2.toNatClampNeg) &&& (255 : Int32))), r_this_one, r_this_reg) _ _ _ _ dX8_doIndexed_211 hF.symm hP hD hS
              · skip
                rw [if_pos c_110] at hF
                rw [if_pos c_110] at hs
                refine lv_aload_n hx hb dX8_doIndexed_99 rfl (lv_at hl 2 rfl) ?_
                refine lv_iload_n hx hb dX8_doIndexed_100 rfl (lv_at hl 3 rfl) ?_
                refine lv_iload_n hx hb dX8_doIndexed_101 rfl (lv_at hl 4 rfl) ?_
                refine lv_iload_n hx hb dX8_doIndexed_102 rfl (lv_at hl 5 rfl) ?_
                refine lv_iload hx hb dX8_doIndexed_103 (lv_at hl 0 rfl) ?_
                have hi_127 := hs
                refine q_Vv (rest := []) (c_X8_numbers l D a_this a_this_bytes a_this_reg a_this_keys a_this_card a_this_filled a_this_taken a_this_line a_this_one a_this_two k_this_bytes k_this_reg w_102.2 r_this_bytes r_this_reg p1 p2 p3 0 hi_127) cv_X8_numbers hx hb hml hown ht hN hK hA hP hD hS hl.1 (km_X8_165) ⟨Nat.le_of_ble_eq_true rfl, Nat.le_of_ble_eq_true rfl⟩ rfl rfl [0, 1, 4] (by decide) rfl [0, 3] rfl (fun _ => rfl) (ci := 8) rfl rfl rfl rfl rfl (Nat.le_of_ble_eq_true rfl) dX8_doIndexed_105 ⟨Nat.zero_le _, Nat.zero_le _⟩ (fun w_128 H locs hw hP hD hS => ?_)
                have hP : va_P D vwCl [(a_this, oX8 a_this_bytes a_this_keys a_this_reg a_this_card a_this_filled a_this_taken a_this_line a_this_one a_this_two w_128.1), (a_this_bytes, .inl (k_this_bytes, 2048, .inl w_128.2.1)), (a_this_keys, .inl (k_this_keys, 8, .inl r_this_keys)), (a_this_one, .inl (k_this_one, 40, .inl r_this_one)), (a_this_reg, .inl (k_this_reg, 16, .inl w_128.2.2))] H := hP
                have hD : va_D A [(a_this, oX8 a_this_bytes a_this_keys a_this_reg a_this_card a_this_filled a_this_taken a_this_line a_this_one a_this_two w_128.1), (a_this_bytes, .inl (k_this_bytes, 2048, .inl w_128.2.1)), (a_this_keys, .inl (k_this_keys, 8, .inl r_this_keys)), (a_this_one, .inl (k_this_one, 40, .inl r_this_one)), (a_this_reg, .inl (k_this_reg, 16, .inl w_128.2.2))] := hD
                rw [q_let_of hw] at hF
                refine lv_goto (tgt := 211) hx hb dX8_doIndexed_108 (by decide) ?_
                exact hQ (w_128.1, w_128.2.1, r_this_one, w_128.2.2) _ _ _ _ dX8_doIndexed_211 hF.symm hP hD hS
          · skip
            rw [if_pos c_106] at hF
            rw [if_pos c_106] at hs
            refine lv_aload_n hx hb dX8_doIndexed_75 rfl (lv_at hl 1 rfl) ?_
            refine gf_X8_7 (v := .ref a_this_bytes) hx hb hown ht hK hP 0 rfl rfl dX8_doIndexed_76 ?_
            refine lv_iload_n hx hb dX8_doIndexed_79 rfl (lv_at hl 4 rfl) ?_
            obtain ⟨hi_129, hs⟩ := hs
            refine va_iald hx hb hK hP 1 0 rfl rfl hi_129 dX8_doIndexed_80 ?_
            refine lv_goto (tgt := 85) hx hb dX8_doIndexed_81 (by decide) ?_
            refine lv_istore (lv' := [(5, .int (r_this_bytes p3.toNatClampNeg)), (4, .int (f_X8_sizeOf p1)), (0, .ref a_this), (1, .int p1), (2, .int p2), (3, .int p3)]) hx hb dX8_doIndexed_85 hl (by decide) rfl (fun ls hl => ?_)
            refine lv_iload_n hx hb dX8_doIndexed_87 rfl (lv_at hl 3 rfl) ?_
            refine lv_bipush (v := 79) hx hb dX8_doIndexed_88 (by decide) ?_
            refine lv_icmp_gt (tgt := 99) hx hb dX8_doIndexed_90 (by decide) (fun c_130 => ?_) (fun c_130 => ?_)
            · skip
              rw [if_pos c_130] at hF
              rw [if_pos c_130] at hs
              refine lv_aload_n hx hb dX8_doIndexed_99 rfl (lv_at hl 2 rfl) ?_
              refine lv_iload_n hx hb dX8_doIndexed_100 rfl (lv_at hl 3 rfl) ?_
              refine lv_iload_n hx hb dX8_doIndexed_101 rfl (lv_at hl 4 rfl) ?_
              refine lv_iload_n hx hb dX8_doIndexed_102 rfl (lv_at hl 5 rfl) ?_
              refine lv_iload hx hb dX8_doIndexed_103 (lv_at hl 0 rfl) ?_
              have hi_131 := hs
              refine q_Vv (rest := []) (c_X8_numbers l D a_this a_this_bytes a_this_reg a_this_keys a_this_card a_this_filled a_this_taken a_this_line a_this_one a_this_two k_this_bytes k_this_reg w_102.2 r_this_bytes r_this_reg p1 p2 p3 (r_this_bytes p3.toNatClampNeg) hi_131) cv_X8_numbers hx hb hml hown ht hN hK hA hP hD hS hl.1 (km_X8_165) ⟨Nat.le_of_ble_eq_true rfl, Nat.le_of_ble_eq_true rfl⟩ rfl rfl [0, 1, 4] (by decide) rfl [0, 3] rfl (fun _ => rfl) (ci := 8) rfl rfl rfl rfl rfl (Nat.le_of_ble_eq_true rfl) dX8_doIndexed_105 ⟨Nat.zero_le _, Nat.zero_le _⟩ (fun w_132 H locs hw hP hD hS => ?_)
              have hP : va_P D vwCl [(a_this, oX8 a_this_bytes a_this_keys a_this_reg a_this_card a_this_filled a_this_taken a_this_line a_this_one a_this_two w_132.1), (a_this_bytes, .inl (k_this_bytes, 2048, .inl w_132.2.1)), (a_this_keys, .inl (k_this_keys, 8, .inl r_this_keys)), (a_this_one, .inl (k_this_one, 40, .inl r_this_one)), (a_this_reg, .inl (k_this_reg, 16, .inl w_132.2.2))] H := hP
              have hD : va_D A [(a_this, oX8 a_this_bytes a_this_keys a_this_reg a_this_card a_this_filled a_this_taken a_this_line a_this_one a_this_two w_132.1), (a_this_bytes, .inl (k_this_bytes, 2048, .inl w_132.2.1)), (a_this_keys, .inl (k_this_keys, 8, .inl r_this_keys)), (a_this_one, .inl (k_this_one, 40, .inl r_this_one)), (a_this_reg, .inl (k_this_reg, 16, .inl w_132.2.2))] := hD
              rw [q_let_of hw] at hF
              refine lv_goto (tgt := 211) hx hb dX8_doIndexed_108 (by decide) ?_
              exact hQ (w_132.1, w_132.2.1, r_this_one, w_132.2.2) _ _ _ _ dX8_doIndexed_211 hF.symm hP hD hS
            · skip
              rw [if_neg c_130] at hF
              rw [if_neg c_130] at hs
              refine lv_iload hx hb dX8_doIndexed_93 (lv_at hl 1 rfl) ?_
              refine lv_iconst (v := 2) hx hb dX8_doIndexed_95 (by decide) ?_
              refine lv_icmp_ne (tgt := 111) hx hb dX8_doIndexed_96 (by decide) (fun c_133 => ?_) (fun c_133 => ?_)
              · skip
                rw [if_neg c_133] at hF
                rw [if_neg c_133] at hs
                refine lv_iload_n hx hb dX8_doIndexed_111 rfl (lv_at hl 3 rfl) ?_
                refine lv_bipush (v := 66) hx hb dX8_doIndexed_112 (by decide) ?_
                refine lv_icmp_ne (tgt := 136) hx hb dX8_doIndexed_114 (by decide) (fun c_134 => ?_) (fun c_134 => ?_)
                · skip
                  rw [if_neg c_134] at hF
                  rw [if_neg c_134] at hs
                  refine lv_iload_n hx hb dX8_doIndexed_136 rfl (lv_at hl 3 rfl) ?_
                  refine lv_bipush (v := 67) hx hb dX8_doIndexed_137 (by decide) ?_
                  refine lv_icmp_ne (tgt := 164) hx hb dX8_doIndexed_139 (by decide) (fun c_135 => ?_) (fun c_135 => ?_)
                  · skip
                    rw [if_neg c_135] at hF
                    rw [if_neg c_135] at hs
                    refine lv_iload hx hb dX8_doIndexed_164 (lv_at hl 1 rfl) ?_
                    refine lv_if_ne (tgt := 179) hx hb dX8_doIndexed_166 (by decide) (fun c_136 => ?_) (fun c_136 => ?_)
                    · skip
                      rw [if_neg c_136] at hF
                      rw [if_neg c_136] at hs
                      refine lv_iload_n hx hb dX8_doIndexed_179 rfl (lv_at hl 3 rfl) ?_
                      refine lv_bipush (v := 79) hx hb dX8_doIndexed_180 (by decide) ?_
                      refine lv_icmp_ne (tgt := 194) hx hb dX8_doIndexed_182 (by decide) (fun c_137 => ?_) (fun c_137 => ?_)
                      · skip
                        rw [if_neg c_137] at hF
                        rw [if_neg c_137] at hs
                        refine lv_aload_n hx hb dX8_doIndexed_194 rfl (lv_at hl 2 rfl) ?_
                        refine lv_aload_n hx hb dX8_doIndexed_195 rfl (lv_at hl 2 rfl) ?_
                        refine gf_X8_16 (v := .ref a_this_reg) hx hb hown ht hK hP 0 rfl rfl dX8_doIndexed_196 ?_
                        refine lv_iload_n hx hb dX8_doIndexed_199 rfl (lv_at hl 4 rfl) ?_
                        obtain ⟨hi_138, hs⟩ := hs
                        refine va_iald hx hb hK hP 4 3 rfl rfl hi_138 dX8_doIndexed_200 ?_
                        refine q_Vv (rest := []) (c_X8_spread l D a_this a_this_one a_this_bytes a_this_keys a_this_reg a_this_card a_this_filled a_this_taken a_this_line a_this_two k_this_one w_102.2 r_this_one (r_this_reg p2.toNatClampNeg)) cv_X8_spread hx hb hml hown ht hN hK hA hP hD hS hl.1 (km_X8_174) ⟨Nat.le_of_ble_eq_true rfl, Nat.le_of_ble_eq_true rfl⟩ rfl rfl [0, 3] (by decide) rfl [2] rfl (fun _ => rfl) (ci := 8) rfl rfl rfl rfl rfl (Nat.le_of_ble_eq_true rfl) dX8_doIndexed_201 ⟨Nat.zero_le _, Nat.zero_le _⟩ (fun w_139 H locs hw hP hD hS => ?_)
                        have hP : va_P D vwCl [(a_this, oX8 a_this_bytes a_this_keys a_this_reg a_this_card a_this_filled a_this_taken a_this_line a_this_one a_this_two w_102.2), (a_this_bytes, .inl (k_this_bytes, 2048, .inl r_this_bytes)), (a_this_keys, .inl (k_this_keys, 8, .inl r_this_keys)), (a_this_one, .inl (k_this_one, 40, .inl w_139)), (a_this_reg, .inl (k_this_reg, 16, .inl r_this_reg))] H := hP
                        have hD : va_D A [(a_this, oX8 a_this_bytes a_this_keys a_this_reg a_this_card a_this_filled a_this_taken a_this_line a_this_one a_this_two w_102.2), (a_this_bytes, .inl (k_this_bytes, 2048, .inl r_this_bytes)), (a_this_keys, .inl (k_this_keys, 8, .inl r_this_keys)), (a_this_one, .inl (k_this_one, 40, .inl w_139)), (a_this_reg, .inl (k_this_reg, 16, .inl r_this_reg))] := hD
                        rw [q_let_of hw] at hF
                        rw [q_let_of hw] at hs
                        refine lv_aload_n hx hb dX8_doIndexed_204 rfl (lv_at hl 2 rfl) ?_
                        refine lv_iload_n hx hb dX8_doIndexed_205 rfl (lv_at hl 5 rfl) ?_
                        refine lv_bipush (v := 8) hx hb dX8_doIndexed_206 (by decide) ?_
                        have hi_140 := hs
                        refine q_Vv (rest := []) (c_X8_store l D a_this a_this_bytes a_this_one a_this_keys a_this_reg a_this_card a_this_filled a_this_taken a_this_line a_this_two k_this_bytes k_this_one w_102.2 r_this_bytes w_139 p3 8 hi_140) cv_X8_store hx hb hml hown ht hN hK hA hP hD hS hl.1 (km_X8_177) ⟨Nat.le_of_ble_eq_true rfl, Nat.le_of_ble_eq_true rfl⟩ rfl rfl [0, 1, 3] (by decide) rfl [0, 2] rfl (fun _ => rfl) (ci := 8) rfl rfl rfl rfl rfl (Nat.le_of_ble_eq_true rfl) dX8_doIndexed_208 ⟨Nat.zero_le _, Nat.zero_le _⟩ (fun w_141 H locs hw hP hD hS => ?_)
                        have hP : va_P D vwCl [(a_this, oX8 a_this_bytes a_this_keys a_this_reg a_this_card a_this_filled a_this_taken a_this_line a_this_one a_this_two w_102.2), (a_this_bytes, .inl (k_this_bytes, 2048, .inl w_141)), (a_this_keys, .inl (k_this_keys, 8, .inl r_this_keys)), (a_this_one, .inl (k_this_one, 40, .inl w_139)), (a_this_reg, .inl (k_this_reg, 16, .inl r_this_reg))] H := hP
                        have hD : va_D A [(a_this, oX8 a_this_bytes a_this_keys a_this_reg a_this_card a_this_filled a_this_taken a_this_line a_this_one a_this_two w_102.2), (a_this_bytes, .inl (k_this_bytes, 2048, .inl w_141)), (a_this_keys, .inl (k_this_keys, 8, .inl r_this_keys)), (a_this_one, .inl (k_this_one, 40, .inl w_139)), (a_this_reg, .inl (k_this_reg, 16, .inl r_this_reg))] := hD
                        rw [q_let_of hw] at hF
                        exact hQ (w_102.2, w_141, w_139, r_this_reg) _ _ _ _ dX8_doIndexed_211 hF.symm hP hD hS
                      · skip
                        rw [if_pos c_137] at hF
                        rw [if_pos c_137] at hs
                        refine lv_aload_n hx hb dX8_doIndexed_185 rfl (lv_at hl 2 rfl) ?_
                        refine lv_iload_n hx hb dX8_doIndexed_186 rfl (lv_at hl 4 rfl) ?_
                        refine lv_iload_n hx hb dX8_doIndexed_187 rfl (lv_at hl 5 rfl) ?_
                        have hi_142 := hs
                        refine q_Vv (rest := []) (c_X8_toBinary l D a_this a_this_bytes a_this_one a_this_reg a_this_keys a_this_card a_this_filled a_this_taken a_this_line a_this_two k_this_bytes k_this_one k_this_reg w_102.2 r_this_bytes r_this_one r_this_reg p2 p3 hi_142) cv_X8_toBinary hx hb hml hown ht hN hK hA hP hD hS hl.1 (km_X8_171) ⟨Nat.le_of_ble_eq_true rfl, Nat.le_of_ble_eq_true rfl⟩ rfl rfl [0, 1, 3, 4] (by decide) rfl [0, 2, 3] rfl (fun _ => rfl) (ci := 8) rfl rfl rfl rfl rfl (Nat.le_of_ble_eq_true rfl) dX8_doIndexed_188 ⟨Nat.zero_le _, Nat.zero_le _⟩ (fun w_143 H locs hw hP hD hS => ?_)
                        have hP : va_P D vwCl [(a_this, oX8 a_this_bytes a_this_keys a_this_reg a_this_card a_this_filled a_this_taken a_this_line a_this_one a_this_two w_143.1), (a_this_bytes, .inl (k_this_bytes, 2048, .inl r_this_bytes)), (a_this_keys, .inl (k_this_keys, 8, .inl r_this_keys)), (a_this_one, .inl (k_this_one, 40, .inl w_143.2.1)), (a_this_reg, .inl (k_this_reg, 16, .inl w_143.2.2))] H := hP
                        have hD : va_D A [(a_this, oX8 a_this_bytes a_this_keys a_this_reg a_this_card a_this_filled a_this_taken a_this_line a_this_one a_this_two w_143.1), (a_this_bytes, .inl (k_this_bytes, 2048, .inl r_this_bytes)), (a_this_keys, .inl (k_this_keys, 8, .inl r_this_keys)), (a_this_one, .inl (k_this_one, 40, .inl w_143.2.1)), (a_this_reg, .inl (k_this_reg, 16, .inl w_143.2.2))] := hD
                        rw [q_let_of hw] at hF
                        refine lv_goto (tgt := 211) hx hb dX8_doIndexed_191 (by decide) ?_
                        exact hQ (w_143.1, r_this_bytes, w_143.2.1, w_143.2.2) _ _ _ _ dX8_doIndexed_211 hF.symm hP hD hS
                    · skip
                      rw [if_pos c_136] at hF
                      rw [if_pos c_136] at hs
                      refine lv_aload_n hx hb dX8_doIndexed_169 rfl (lv_at hl 2 rfl) ?_
                      refine lv_iload_n hx hb dX8_doIndexed_170 rfl (lv_at hl 3 rfl) ?_
                      refine lv_iload_n hx hb dX8_doIndexed_171 rfl (lv_at hl 4 rfl) ?_
                      refine lv_iload_n hx hb dX8_doIndexed_172 rfl (lv_at hl 5 rfl) ?_
                      have hi_144 := hs
                      refine q_Vv (rest := []) (c_X8_ways l D a_this a_this_reg a_this_bytes a_this_keys a_this_card a_this_filled a_this_taken a_this_line a_this_one a_this_two k_this_reg w_102.2 r_this_reg p1 p2 p3 hi_144) cv_X8_ways hx hb hml hown ht hN hK hA hP hD hS hl.1 (km_X8_168) ⟨Nat.le_of_ble_eq_true rfl, Nat.le_of_ble_eq_true rfl⟩ rfl rfl [0, 4] (by decide) rfl [3] rfl (fun _ => rfl) (ci := 8) rfl rfl rfl rfl rfl (Nat.le_of_ble_eq_true rfl) dX8_doIndexed_173 ⟨Nat.zero_le _, Nat.zero_le _⟩ (fun w_145 H locs hw hP hD hS => ?_)
                      have hP : va_P D vwCl [(a_this, oX8 a_this_bytes a_this_keys a_this_reg a_this_card a_this_filled a_this_taken a_this_line a_this_one a_this_two w_145.1), (a_this_bytes, .inl (k_this_bytes, 2048, .inl r_this_bytes)), (a_this_keys, .inl (k_this_keys, 8, .inl r_this_keys)), (a_this_one, .inl (k_this_one, 40, .inl r_this_one)), (a_this_reg, .inl (k_this_reg, 16, .inl w_145.2))] H := hP
                      have hD : va_D A [(a_this, oX8 a_this_bytes a_this_keys a_this_reg a_this_card a_this_filled a_this_taken a_this_line a_this_one a_this_two w_145.1), (a_this_bytes, .inl (k_this_bytes, 2048, .inl r_this_bytes)), (a_this_keys, .inl (k_this_keys, 8, .inl r_this_keys)), (a_this_one, .inl (k_this_one, 40, .inl r_this_one)), (a_this_reg, .inl (k_this_reg, 16, .inl w_145.2))] := hD
                      rw [q_let_of hw] at hF
                      refine lv_goto (tgt := 211) hx hb dX8_doIndexed_176 (by decide) ?_
                      exact hQ (w_145.1, r_this_bytes, r_this_one, w_145.2) _ _ _ _ dX8_doIndexed_211 hF.symm hP hD hS
                  · skip
                    rw [if_pos c_135] at hF
                    rw [if_pos c_135] at hs
                    refine lv_aload_n hx hb dX8_doIndexed_142 rfl (lv_at hl 2 rfl) ?_
                    refine gf_X8_16 (v := .ref a_this_reg) hx hb hown ht hK hP 0 rfl rfl dX8_doIndexed_143 ?_
                    refine lv_iload_n hx hb dX8_doIndexed_146 rfl (lv_at hl 4 rfl) ?_
                    refine lv_aload_n hx hb dX8_doIndexed_147 rfl (lv_at hl 2 rfl) ?_
                    refine gf_X8_16 (v := .ref a_this_reg) hx hb hown ht hK hP 0 rfl rfl dX8_doIndexed_148 ?_
                    refine lv_iload_n hx hb dX8_doIndexed_151 rfl (lv_at hl 4 rfl) ?_
                    obtain ⟨hi_146, hs⟩ := hs
                    refine va_iald hx hb hK hP 4 3 rfl rfl hi_146 dX8_doIndexed_152 ?_
                    refine lv_sipush (v := (-256)) hx hb dX8_doIndexed_153 (by decide) ?_
                    refine lv_iand hx hb dX8_doIndexed_156 ?_
                    refine lv_iload hx hb dX8_doIndexed_157 (lv_at hl 0 rfl) ?_
                    refine lv_iadd hx hb dX8_doIndexed_159 ?_
                    have hi_147 := hs
                    refine va_iast hx hb hK hP hD hS 4 3 rfl rfl hi_147 dX8_doIndexed_160 (fun H locs hP hD hS => ?_)
                    have hP : va_P D vwCl [(a_this, oX8 a_this_bytes a_this_keys a_this_reg a_this_card a_this_filled a_this_taken a_this_line a_this_one a_this_two w_102.2), (a_this_bytes, .inl (k_this_bytes, 2048, .inl r_this_bytes)), (a_this_keys, .inl (k_this_keys, 8, .inl r_this_keys)), (a_this_one, .inl (k_this_one, 40, .inl r_this_one)), (a_this_reg, .inl (k_this_reg, 16, .inl (upd r_this_reg p2.toNatClampNeg (((r_this_reg p2.toNatClampNeg) &&& ((-256) : Int32)) + (r_this_bytes p3.toNatClampNeg)))))] H := hP
                    have hD : va_D A [(a_this, oX8 a_this_bytes a_this_keys a_this_reg a_this_card a_this_filled a_this_taken a_this_line a_this_one a_this_two w_102.2), (a_this_bytes, .inl (k_this_bytes, 2048, .inl r_this_bytes)), (a_this_keys, .inl (k_this_keys, 8, .inl r_this_keys)), (a_this_one, .inl (k_this_one, 40, .inl r_this_one)), (a_this_reg, .inl (k_this_reg, 16, .inl (upd r_this_reg p2.toNatClampNeg (((r_this_reg p2.toNatClampNeg) &&& ((-256) : Int32)) + (r_this_bytes p3.toNatClampNeg)))))] := hD
                    refine lv_goto (tgt := 211) hx hb dX8_doIndexed_161 (by decide) ?_
                    exact hQ (w_102.2, r_this_bytes, r_this_one, (upd r_this_reg p2.toNatClampNeg (((r_this_reg p2.toNatClampNeg) &&& ((-256) : Int32)) + (r_this_bytes p3.toNatClampNeg)))) _ _ _ _ dX8_doIndexed_211 hF.symm hP hD hS
                · skip
                  rw [if_pos c_134] at hF
                  rw [if_pos c_134] at hs
                  refine lv_aload_n hx hb dX8_doIndexed_117 rfl (lv_at hl 2 rfl) ?_
                  refine gf_X8_7 (v := .ref a_this_bytes) hx hb hown ht hK hP 0 rfl rfl dX8_doIndexed_118 ?_
                  refine lv_iload_n hx hb dX8_doIndexed_121 rfl (lv_at hl 5 rfl) ?_
                  refine lv_aload_n hx hb dX8_doIndexed_122 rfl (lv_at hl 2 rfl) ?_
                  refine gf_X8_16 (v := .ref a_this_reg) hx hb hown ht hK hP 0 rfl rfl dX8_doIndexed_123 ?_
                  refine lv_iload_n hx hb dX8_doIndexed_126 rfl (lv_at hl 4 rfl) ?_
                  obtain ⟨hi_148, hs⟩ := hs
                  refine va_iald hx hb hK hP 4 3 rfl rfl hi_148 dX8_doIndexed_127 ?_
                  refine lv_sipush (v := 255) hx hb dX8_doIndexed_128 (by decide) ?_
                  refine lv_iand hx hb dX8_doIndexed_131 ?_
                  have hi_149 := hs
                  refine va_iast hx hb hK hP hD hS 1 0 rfl rfl hi_149 dX8_doIndexed_132 (fun H locs hP hD hS => ?_)
                  have hP : va_P D vwCl [(a_this, oX8 a_this_bytes a_this_keys a_this_reg a_this_card a_this_filled a_this_taken a_this_line a_this_one a_this_two w_102.2), (a_this_bytes, .inl (k_this_bytes, 2048, .inl (upd r_this_bytes p3.toNatClampNeg ((r_this_reg p2.toNatClampNeg) &&& (255 : Int32))))), (a_this_keys, .inl (k_this_keys, 8, .inl r_this_keys)), (a_this_one, .inl (k_this_one, 40, .inl r_this_one)), (a_this_reg, .inl (k_this_reg, 16, .inl r_this_reg))] H := hP
                  have hD : va_D A [(a_this, oX8 a_this_bytes a_this_keys a_this_reg a_this_card a_this_filled a_this_taken a_this_line a_this_one a_this_two w_102.2), (a_this_bytes, .inl (k_this_bytes, 2048, .inl (upd r_this_bytes p3.toNatClampNeg ((r_this_reg p2.toNatClampNeg) &&& (255 : Int32))))), (a_this_keys, .inl (k_this_keys, 8, .inl r_this_keys)), (a_this_one, .inl (k_this_one, 40, .inl r_this_one)), (a_this_reg, .inl (k_this_reg, 16, .inl r_this_reg))] := hD
                  refine lv_goto (tgt := 211) hx hb dX8_doIndexed_133 (by decide) ?_
                  exact hQ (w_102.2, (upd r_this_bytes p3.toNatClampNeg ((r_this_reg p2.toNatClampNeg) &&& (255 : Int32))), r_this_one, r_this_reg) _ _ _ _ dX8_doIndexed_211 hF.symm hP hD hS
              · skip
                rw [if_pos c_133] at hF
                rw [if_pos c_133] at hs
                refine lv_aload_n hx hb dX8_doIndexed_99 rfl (lv_at hl 2 rfl) ?_
                refine lv_iload_n hx hb dX8_doIndexed_100 rfl (lv_at hl 3 rfl) ?_
                refine lv_iload_n hx hb dX8_doIndexed_101 rfl (lv_at hl 4 rfl) ?_
                refine lv_iload_n hx hb dX8_doIndexed_102 rfl (lv_at hl 5 rfl) ?_
                refine lv_iload hx hb dX8_doIndexed_103 (lv_at hl 0 rfl) ?_
                have hi_150 := hs
                refine q_Vv (rest := []) (c_X8_numbers l D a_this a_this_bytes a_this_reg a_this_keys a_this_card a_this_filled a_this_taken a_this_line a_this_one a_this_two k_this_bytes k_this_reg w_102.2 r_this_bytes r_this_reg p1 p2 p3 (r_this_bytes p3.toNatClampNeg) hi_150) cv_X8_numbers hx hb hml hown ht hN hK hA hP hD hS hl.1 (km_X8_165) ⟨Nat.le_of_ble_eq_true rfl, Nat.le_of_ble_eq_true rfl⟩ rfl rfl [0, 1, 4] (by decide) rfl [0, 3] rfl (fun _ => rfl) (ci := 8) rfl rfl rfl rfl rfl (Nat.le_of_ble_eq_true rfl) dX8_doIndexed_105 ⟨Nat.zero_le _, Nat.zero_le _⟩ (fun w_151 H locs hw hP hD hS => ?_)
                have hP : va_P D vwCl [(a_this, oX8 a_this_bytes a_this_keys a_this_reg a_this_card a_this_filled a_this_taken a_this_line a_this_one a_this_two w_151.1), (a_this_bytes, .inl (k_this_bytes, 2048, .inl w_151.2.1)), (a_this_keys, .inl (k_this_keys, 8, .inl r_this_keys)), (a_this_one, .inl (k_this_one, 40, .inl r_this_one)), (a_this_reg, .inl (k_this_reg, 16, .inl w_151.2.2))] H := hP
                have hD : va_D A [(a_this, oX8 a_this_bytes a_this_keys a_this_reg a_this_card a_this_filled a_this_taken a_this_line a_this_one a_this_two w_151.1), (a_this_bytes, .inl (k_this_bytes, 2048, .inl w_151.2.1)), (a_this_keys, .inl (k_this_keys, 8, .inl r_this_keys)), (a_this_one, .inl (k_this_one, 40, .inl r_this_one)), (a_this_reg, .inl (k_this_reg, 16, .inl w_151.2.2))] := hD
                rw [q_let_of hw] at hF
                refine lv_goto (tgt := 211) hx hb dX8_doIndexed_108 (by decide) ?_
                exact hQ (w_151.1, w_151.2.1, r_this_one, w_151.2.2) _ _ _ _ dX8_doIndexed_211 hF.symm hP hD hS
        · skip
          rw [if_pos c_105] at hF
          rw [if_pos c_105] at hs
          refine lv_aload_n hx hb dX8_doIndexed_57 rfl (lv_at hl 1 rfl) ?_
          refine lv_iload_n hx hb dX8_doIndexed_58 rfl (lv_at hl 4 rfl) ?_
          refine lv_iconst (v := 2) hx hb dX8_doIndexed_59 (by decide) ?_
          obtain ⟨hi_152, hs⟩ := hs
          refine q_Vi (rest := []) (c_X8_field l D a_this a_this_bytes a_this_keys a_this_reg a_this_card a_this_filled a_this_taken a_this_line a_this_one a_this_two k_this_bytes w_102.2 r_this_bytes p3 2 hi_152) cv_X8_field hx hb hml hown ht hN hK hA hP hD hS hl.1 (km_X8_66) ⟨Nat.le_of_ble_eq_true rfl, Nat.le_of_ble_eq_true rfl⟩ rfl rfl [0, 1] (by decide) rfl [0] rfl (fun _ => rfl) (ci := 8) rfl rfl rfl rfl rfl (Nat.le_of_ble_eq_true rfl) dX8_doIndexed_60 ⟨Nat.zero_le _, Nat.zero_le _⟩ (fun r u H locs hw hP hD hS => ?_)
          obtain ⟨rfl, rfl⟩ := hw
          have hP : va_P D vwCl [(a_this, oX8 a_this_bytes a_this_keys a_this_reg a_this_card a_this_filled a_this_taken a_this_line a_this_one a_this_two w_102.2), (a_this_bytes, .inl (k_this_bytes, 2048, .inl r_this_bytes)), (a_this_keys, .inl (k_this_keys, 8, .inl r_this_keys)), (a_this_one, .inl (k_this_one, 40, .inl r_this_one)), (a_this_reg, .inl (k_this_reg, 16, .inl r_this_reg))] H := hP
          have hD : va_D A [(a_this, oX8 a_this_bytes a_this_keys a_this_reg a_this_card a_this_filled a_this_taken a_this_line a_this_one a_this_two w_102.2), (a_this_bytes, .inl (k_this_bytes, 2048, .inl r_this_bytes)), (a_this_keys, .inl (k_this_keys, 8, .inl r_this_keys)), (a_this_one, .inl (k_this_one, 40, .inl r_this_one)), (a_this_reg, .inl (k_this_reg, 16, .inl r_this_reg))] := hD
          refine q_Si (rest := []) (c_X8_signed l D (f_X8_field r_this_bytes p3 2)) cv_X8_signed hx hb hml hown ht hN hK hA hP hD hS hl.1 (km_X8_162) ⟨Nat.le_of_ble_eq_true rfl, Nat.le_of_ble_eq_true rfl⟩ rfl rfl [] (by decide) rfl [] rfl (fun _ => rfl) rfl rfl (Nat.le_of_ble_eq_true rfl) dX8_doIndexed_63 ⟨Nat.zero_le _, Nat.zero_le _⟩ (fun r u H locs hw hP hD hS => ?_)
          obtain ⟨rfl, rfl⟩ := hw
          have hP : va_P D vwCl [(a_this, oX8 a_this_bytes a_this_keys a_this_reg a_this_card a_this_filled a_this_taken a_this_line a_this_one a_this_two w_102.2), (a_this_bytes, .inl (k_this_bytes, 2048, .inl r_this_bytes)), (a_this_keys, .inl (k_this_keys, 8, .inl r_this_keys)), (a_this_one, .inl (k_this_one, 40, .inl r_this_one)), (a_this_reg, .inl (k_this_reg, 16, .inl r_this_reg))] H := hP
          have hD : va_D A [(a_this, oX8 a_this_bytes a_this_keys a_this_reg a_this_card a_this_filled a_this_taken a_this_line a_this_one a_this_two w_102.2), (a_this_bytes, .inl (k_this_bytes, 2048, .inl r_this_bytes)), (a_this_keys, .inl (k_this_keys, 8, .inl r_this_keys)), (a_this_one, .inl (k_this_one, 40, .inl r_this_one)), (a_this_reg, .inl (k_this_reg, 16, .inl r_this_reg))] := hD
          refine lv_goto (tgt := 85) hx hb dX8_doIndexed_66 (by decide) ?_
          refine lv_istore (lv' := [(5, .int (f_X8_signed (f_X8_field r_this_bytes p3 2))), (4, .int (f_X8_sizeOf p1)), (0, .ref a_this), (1, .int p1), (2, .int p2), (3, .int p3)]) hx hb dX8_doIndexed_85 hl (by decide) rfl (fun ls hl => ?_)
          refine lv_iload_n hx hb dX8_doIndexed_87 rfl (lv_at hl 3 rfl) ?_
          refine lv_bipush (v := 79) hx hb dX8_doIndexed_88 (by decide) ?_
          refine lv_icmp_gt (tgt := 99) hx hb dX8_doIndexed_90 (by decide) (fun c_155 => ?_) (fun c_155 => ?_)
          · skip
            rw [if_pos c_155] at hF
            rw [if_pos c_155] at hs
            refine lv_aload_n hx hb dX8_doIndexed_99 rfl (lv_at hl 2 rfl) ?_
            refine lv_iload_n hx hb dX8_doIndexed_100 rfl (lv_at hl 3 rfl) ?_
            refine lv_iload_n hx hb dX8_doIndexed_101 rfl (lv_at hl 4 rfl) ?_
            refine lv_iload_n hx hb dX8_doIndexed_102 rfl (lv_at hl 5 rfl) ?_
            refine lv_iload hx hb dX8_doIndexed_103 (lv_at hl 0 rfl) ?_
            have hi_156 := hs
            refine q_Vv (rest := []) (c_X8_numbers l D a_this a_this_bytes a_this_reg a_this_keys a_this_card a_this_filled a_this_taken a_this_line a_this_one a_this_two k_this_bytes k_this_reg w_102.2 r_this_bytes r_this_reg p1 p2 p3 (f_X8_signed (f_X8_field r_this_bytes p3 2)) hi_156) cv_X8_numbers hx hb hml hown ht hN hK hA hP hD hS hl.1 (km_X8_165) ⟨Nat.le_of_ble_eq_true rfl, Nat.le_of_ble_eq_true rfl⟩ rfl rfl [0, 1, 4] (by decide) rfl [0, 3] rfl (fun _ => rfl) (ci := 8) rfl rfl rfl rfl rfl (Nat.le_of_ble_eq_true rfl) dX8_doIndexed_105 ⟨Nat.zero_le _, Nat.zero_le _⟩ (fun w_157 H locs hw hP hD hS => ?_)
            have hP : va_P D vwCl [(a_this, oX8 a_this_bytes a_this_keys a_this_reg a_this_card a_this_filled a_this_taken a_this_line a_this_one a_this_two w_157.1), (a_this_bytes, .inl (k_this_bytes, 2048, .inl w_157.2.1)), (a_this_keys, .inl (k_this_keys, 8, .inl r_this_keys)), (a_this_one, .inl (k_this_one, 40, .inl r_this_one)), (a_this_reg, .inl (k_this_reg, 16, .inl w_157.2.2))] H := hP
            have hD : va_D A [(a_this, oX8 a_this_bytes a_this_keys a_this_reg a_this_card a_this_filled a_this_taken a_this_line a_this_one a_this_two w_157.1), (a_this_bytes, .inl (k_this_bytes, 2048, .inl w_157.2.1)), (a_this_keys, .inl (k_this_keys, 8, .inl r_this_keys)), (a_this_one, .inl (k_this_one, 40, .inl r_this_one)), (a_this_reg, .inl (k_this_reg, 16, .inl w_157.2.2))] := hD
            rw [q_let_of hw] at hF
            refine lv_goto (tgt := 211) hx hb dX8_doIndexed_108 (by decide) ?_
            exact hQ (w_157.1, w_157.2.1, r_this_one, w_157.2.2) _ _ _ _ dX8_doIndexed_211 hF.symm hP hD hS
          · skip
            rw [if_neg c_155] at hF
            rw [if_neg c_155] at hs
            refine lv_iload hx hb dX8_doIndexed_93 (lv_at hl 1 rfl) ?_
            refine lv_iconst (v := 2) hx hb dX8_doIndexed_95 (by decide) ?_
            refine lv_icmp_ne (tgt := 111) hx hb dX8_doIndexed_96 (by decide) (fun c_158 => ?_) (fun c_158 => ?_)
            · skip
              rw [if_neg c_158] at hF
              rw [if_neg c_158] at hs
              refine lv_iload_n hx hb dX8_doIndexed_111 rfl (lv_at hl 3 rfl) ?_
              refine lv_bipush (v := 66) hx hb dX8_doIndexed_112 (by decide) ?_
              refine lv_icmp_ne (tgt := 136) hx hb dX8_doIndexed_114 (by decide) (fun c_159 => ?_) (fun c_159 => ?_)
              · skip
                rw [if_neg c_159] at hF
                rw [if_neg c_159] at hs
                refine lv_iload_n hx hb dX8_doIndexed_136 rfl (lv_at hl 3 rfl) ?_
                refine lv_bipush (v := 67) hx hb dX8_doIndexed_137 (by decide) ?_
                refine lv_icmp_ne (tgt := 164) hx hb dX8_doIndexed_139 (by decide) (fun c_160 => ?_) (fun c_160 => ?_)
                · skip
                  rw [if_neg c_160] at hF
                  rw [if_neg c_160] at hs
                  refine lv_iload hx hb dX8_doIndexed_164 (lv_at hl 1 rfl) ?_
                  refine lv_if_ne (tgt := 179) hx hb dX8_doIndexed_166 (by decide) (fun c_161 => ?_) (fun c_161 => ?_)
                  · skip
                    rw [if_neg c_161] at hF
                    rw [if_neg c_161] at hs
                    refine lv_iload_n hx hb dX8_doIndexed_179 rfl (lv_at hl 3 rfl) ?_
                    refine lv_bipush (v := 79) hx hb dX8_doIndexed_180 (by decide) ?_
                    refine lv_icmp_ne (tgt := 194) hx hb dX8_doIndexed_182 (by decide) (fun c_162 => ?_) (fun c_162 => ?_)
                    · skip
                      rw [if_neg c_162] at hF
                      rw [if_neg c_162] at hs
                      refine lv_aload_n hx hb dX8_doIndexed_194 rfl (lv_at hl 2 rfl) ?_
                      refine lv_aload_n hx hb dX8_doIndexed_195 rfl (lv_at hl 2 rfl) ?_
                      refine gf_X8_16 (v := .ref a_this_reg) hx hb hown ht hK hP 0 rfl rfl dX8_doIndexed_196 ?_
                      refine lv_iload_n hx hb dX8_doIndexed_199 rfl (lv_at hl 4 rfl) ?_
                      obtain ⟨hi_163, hs⟩ := hs
                      refine va_iald hx hb hK hP 4 3 rfl rfl hi_163 dX8_doIndexed_200 ?_
                      refine q_Vv (rest := []) (c_X8_spread l D a_this a_this_one a_this_bytes a_this_keys a_this_reg a_this_card a_this_filled a_this_taken a_this_line a_this_two k_this_one w_102.2 r_this_one (r_this_reg p2.toNatClampNeg)) cv_X8_spread hx hb hml hown ht hN hK hA hP hD hS hl.1 (km_X8_174) ⟨Nat.le_of_ble_eq_true rfl, Nat.le_of_ble_eq_true rfl⟩ rfl rfl [0, 3] (by decide) rfl [2] rfl (fun _ => rfl) (ci := 8) rfl rfl rfl rfl rfl (Nat.le_of_ble_eq_true rfl) dX8_doIndexed_201 ⟨Nat.zero_le _, Nat.zero_le _⟩ (fun w_164 H locs hw hP hD hS => ?_)
                      have hP : va_P D vwCl [(a_this, oX8 a_this_bytes a_this_keys a_this_reg a_this_card a_this_filled a_this_taken a_this_line a_this_one a_this_two w_102.2), (a_this_bytes, .inl (k_this_bytes, 2048, .inl r_this_bytes)), (a_this_keys, .inl (k_this_keys, 8, .inl r_this_keys)), (a_this_one, .inl (k_this_one, 40, .inl w_164)), (a_this_reg, .inl (k_this_reg, 16, .inl r_this_reg))] H := hP
                      have hD : va_D A [(a_this, oX8 a_this_bytes a_this_keys a_this_reg a_this_card a_this_filled a_this_taken a_this_line a_this_one a_this_two w_102.2), (a_this_bytes, .inl (k_this_bytes, 2048, .inl r_this_bytes)), (a_this_keys, .inl (k_this_keys, 8, .inl r_this_keys)), (a_this_one, .inl (k_this_one, 40, .inl w_164)), (a_this_reg, .inl (k_this_reg, 16, .inl r_this_reg))] := hD
                      rw [q_let_of hw] at hF
                      rw [q_let_of hw] at hs
                      refine lv_aload_n hx hb dX8_doIndexed_204 rfl (lv_at hl 2 rfl) ?_
                      refine lv_iload_n hx hb dX8_doIndexed_205 rfl (lv_at hl 5 rfl) ?_
                      refine lv_bipush (v := 8) hx hb dX8_doIndexed_206 (by decide) ?_
                      have hi_165 := hs
                      refine q_Vv (rest := []) (c_X8_store l D a_this a_this_bytes a_this_one a_this_keys a_this_reg a_this_card a_this_filled a_this_taken a_this_line a_this_two k_this_bytes k_this_one w_102.2 r_this_bytes w_164 p3 8 hi_165) cv_X8_store hx hb hml hown ht hN hK hA hP hD hS hl.1 (km_X8_177) ⟨Nat.le_of_ble_eq_true rfl, Nat.le_of_ble_eq_true rfl⟩ rfl rfl [0, 1, 3] (by decide) rfl [0, 2] rfl (fun _ => rfl) (ci := 8) rfl rfl rfl rfl rfl (Nat.le_of_ble_eq_true rfl) dX8_doIndexed_208 ⟨Nat.zero_le _, Nat.zero_le _⟩ (fun w_166 H locs hw hP hD hS => ?_)
                      have hP : va_P D vwCl [(a_this, oX8 a_this_bytes a_this_keys a_this_reg a_this_card a_this_filled a_this_taken a_this_line a_this_one a_this_two w_102.2), (a_this_bytes, .inl (k_this_bytes, 2048, .inl w_166)), (a_this_keys, .inl (k_this_keys, 8, .inl r_this_keys)), (a_this_one, .inl (k_this_one, 40, .inl w_164)), (a_this_reg, .inl (k_this_reg, 16, .inl r_this_reg))] H := hP
                      have hD : va_D A [(a_this, oX8 a_this_bytes a_this_keys a_this_reg a_this_card a_this_filled a_this_taken a_this_line a_this_one a_this_two w_102.2), (a_this_bytes, .inl (k_this_bytes, 2048, .inl w_166)), (a_this_keys, .inl (k_this_keys, 8, .inl r_this_keys)), (a_this_one, .inl (k_this_one, 40, .inl w_164)), (a_this_reg, .inl (k_this_reg, 16, .inl r_this_reg))] := hD
                      rw [q_let_of hw] at hF
                      exact hQ (w_102.2, w_166, w_164, r_this_reg) _ _ _ _ dX8_doIndexed_211 hF.symm hP hD hS
                    · skip
                      rw [if_pos c_162] at hF
                      rw [if_pos c_162] at hs
                      refine lv_aload_n hx hb dX8_doIndexed_185 rfl (lv_at hl 2 rfl) ?_
                      refine lv_iload_n hx hb dX8_doIndexed_186 rfl (lv_at hl 4 rfl) ?_
                      refine lv_iload_n hx hb dX8_doIndexed_187 rfl (lv_at hl 5 rfl) ?_
                      have hi_167 := hs
                      refine q_Vv (rest := []) (c_X8_toBinary l D a_this a_this_bytes a_this_one a_this_reg a_this_keys a_this_card a_this_filled a_this_taken a_this_line a_this_two k_this_bytes k_this_one k_this_reg w_102.2 r_this_bytes r_this_one r_this_reg p2 p3 hi_167) cv_X8_toBinary hx hb hml hown ht hN hK hA hP hD hS hl.1 (km_X8_171) ⟨Nat.le_of_ble_eq_true rfl, Nat.le_of_ble_eq_true rfl⟩ rfl rfl [0, 1, 3, 4] (by decide) rfl [0, 2, 3] rfl (fun _ => rfl) (ci := 8) rfl rfl rfl rfl rfl (Nat.le_of_ble_eq_true rfl) dX8_doIndexed_188 ⟨Nat.zero_le _, Nat.zero_le _⟩ (fun w_168 H locs hw hP hD hS => ?_)
                      have hP : va_P D vwCl [(a_this, oX8 a_this_bytes a_this_keys a_this_reg a_this_card a_this_filled a_this_taken a_this_line a_this_one a_this_two w_168.1), (a_this_bytes, .inl (k_this_bytes, 2048, .inl r_this_bytes)), (a_this_keys, .inl (k_this_keys, 8, .inl r_this_keys)), (a_this_one, .inl (k_this_one, 40, .inl w_168.2.1)), (a_this_reg, .inl (k_this_reg, 16, .inl w_168.2.2))] H := hP
                      have hD : va_D A [(a_this, oX8 a_this_bytes a_this_keys a_this_reg a_this_card a_this_filled a_this_taken a_this_line a_this_one a_this_two w_168.1), (a_this_bytes, .inl (k_this_bytes, 2048, .inl r_this_bytes)), (a_this_keys, .inl (k_this_keys, 8, .inl r_this_keys)), (a_this_one, .inl (k_this_one, 40, .inl w_168.2.1)), (a_this_reg, .inl (k_this_reg, 16, .inl w_168.2.2))] := hD
                      rw [q_let_of hw] at hF
                      refine lv_goto (tgt := 211) hx hb dX8_doIndexed_191 (by decide) ?_
                      exact hQ (w_168.1, r_this_bytes, w_168.2.1, w_168.2.2) _ _ _ _ dX8_doIndexed_211 hF.symm hP hD hS
                  · skip
                    rw [if_pos c_161] at hF
                    rw [if_pos c_161] at hs
                    refine lv_aload_n hx hb dX8_doIndexed_169 rfl (lv_at hl 2 rfl) ?_
                    refine lv_iload_n hx hb dX8_doIndexed_170 rfl (lv_at hl 3 rfl) ?_
                    refine lv_iload_n hx hb dX8_doIndexed_171 rfl (lv_at hl 4 rfl) ?_
                    refine lv_iload_n hx hb dX8_doIndexed_172 rfl (lv_at hl 5 rfl) ?_
                    have hi_169 := hs
                    refine q_Vv (rest := []) (c_X8_ways l D a_this a_this_reg a_this_bytes a_this_keys a_this_card a_this_filled a_this_taken a_this_line a_this_one a_this_two k_this_reg w_102.2 r_this_reg p1 p2 p3 hi_169) cv_X8_ways hx hb hml hown ht hN hK hA hP hD hS hl.1 (km_X8_168) ⟨Nat.le_of_ble_eq_true rfl, Nat.le_of_ble_eq_true rfl⟩ rfl rfl [0, 4] (by decide) rfl [3] rfl (fun _ => rfl) (ci := 8) rfl rfl rfl rfl rfl (Nat.le_of_ble_eq_true rfl) dX8_doIndexed_173 ⟨Nat.zero_le _, Nat.zero_le _⟩ (fun w_170 H locs hw hP hD hS => ?_)
                    have hP : va_P D vwCl [(a_this, oX8 a_this_bytes a_this_keys a_this_reg a_this_card a_this_filled a_this_taken a_this_line a_this_one a_this_two w_170.1), (a_this_bytes, .inl (k_this_bytes, 2048, .inl r_this_bytes)), (a_this_keys, .inl (k_this_keys, 8, .inl r_this_keys)), (a_this_one, .inl (k_this_one, 40, .inl r_this_one)), (a_this_reg, .inl (k_this_reg, 16, .inl w_170.2))] H := hP
                    have hD : va_D A [(a_this, oX8 a_this_bytes a_this_keys a_this_reg a_this_card a_this_filled a_this_taken a_this_line a_this_one a_this_two w_170.1), (a_this_bytes, .inl (k_this_bytes, 2048, .inl r_this_bytes)), (a_this_keys, .inl (k_this_keys, 8, .inl r_this_keys)), (a_this_one, .inl (k_this_one, 40, .inl r_this_one)), (a_this_reg, .inl (k_this_reg, 16, .inl w_170.2))] := hD
                    rw [q_let_of hw] at hF
                    refine lv_goto (tgt := 211) hx hb dX8_doIndexed_176 (by decide) ?_
                    exact hQ (w_170.1, r_this_bytes, r_this_one, w_170.2) _ _ _ _ dX8_doIndexed_211 hF.symm hP hD hS
                · skip
                  rw [if_pos c_160] at hF
                  rw [if_pos c_160] at hs
                  refine lv_aload_n hx hb dX8_doIndexed_142 rfl (lv_at hl 2 rfl) ?_
                  refine gf_X8_16 (v := .ref a_this_reg) hx hb hown ht hK hP 0 rfl rfl dX8_doIndexed_143 ?_
                  refine lv_iload_n hx hb dX8_doIndexed_146 rfl (lv_at hl 4 rfl) ?_
                  refine lv_aload_n hx hb dX8_doIndexed_147 rfl (lv_at hl 2 rfl) ?_
                  refine gf_X8_16 (v := .ref a_this_reg) hx hb hown ht hK hP 0 rfl rfl dX8_doIndexed_148 ?_
                  refine lv_iload_n hx hb dX8_doIndexed_151 rfl (lv_at hl 4 rfl) ?_
                  obtain ⟨hi_171, hs⟩ := hs
                  refine va_iald hx hb hK hP 4 3 rfl rfl hi_171 dX8_doIndexed_152 ?_
                  refine lv_sipush (v := (-256)) hx hb dX8_doIndexed_153 (by decide) ?_
                  refine lv_iand hx hb dX8_doIndexed_156 ?_
                  refine lv_iload hx hb dX8_doIndexed_157 (lv_at hl 0 rfl) ?_
                  refine lv_iadd hx hb dX8_doIndexed_159 ?_
                  have hi_172 := hs
                  refine va_iast hx hb hK hP hD hS 4 3 rfl rfl hi_172 dX8_doIndexed_160 (fun H locs hP hD hS => ?_)
                  have hP : va_P D vwCl [(a_this, oX8 a_this_bytes a_this_keys a_this_reg a_this_card a_this_filled a_this_taken a_this_line a_this_one a_this_two w_102.2), (a_this_bytes, .inl (k_this_bytes, 2048, .inl r_this_bytes)), (a_this_keys, .inl (k_this_keys, 8, .inl r_this_keys)), (a_this_one, .inl (k_this_one, 40, .inl r_this_one)), (a_this_reg, .inl (k_this_reg, 16, .inl (upd r_this_reg p2.toNatClampNeg (((r_this_reg p2.toNatClampNeg) &&& ((-256) : Int32)) + (f_X8_signed (f_X8_field r_this_bytes p3 2))))))] H := hP
                  have hD : va_D A [(a_this, oX8 a_this_bytes a_this_keys a_this_reg a_this_card a_this_filled a_this_taken a_this_line a_this_one a_this_two w_102.2), (a_this_bytes, .inl (k_this_bytes, 2048, .inl r_this_bytes)), (a_this_keys, .inl (k_this_keys, 8, .inl r_this_keys)), (a_this_one, .inl (k_this_one, 40, .inl r_this_one)), (a_this_reg, .inl (k_this_reg, 16, .inl (upd r_this_reg p2.toNatClampNeg (((r_this_reg p2.toNatClampNeg) &&& ((-256) : Int32)) + (f_X8_signed (f_X8_field r_this_bytes p3 2))))))] := hD
                  refine lv_goto (tgt := 211) hx hb dX8_doIndexed_161 (by decide) ?_
                  exact hQ (w_102.2, r_this_bytes, r_this_one, (upd r_this_reg p2.toNatClampNeg (((r_this_reg p2.toNatClampNeg) &&& ((-256) : Int32)) + (f_X8_signed (f_X8_field r_this_bytes p3 2))))) _ _ _ _ dX8_doIndexed_211 hF.symm hP hD hS
              · skip
                rw [if_pos c_159] at hF
                rw [if_pos c_159] at hs
                refine lv_aload_n hx hb dX8_doIndexed_117 rfl (lv_at hl 2 rfl) ?_
                refine gf_X8_7 (v := .ref a_this_bytes) hx hb hown ht hK hP 0 rfl rfl dX8_doIndexed_118 ?_
                refine lv_iload_n hx hb dX8_doIndexed_121 rfl (lv_at hl 5 rfl) ?_
                refine lv_aload_n hx hb dX8_doIndexed_122 rfl (lv_at hl 2 rfl) ?_
                refine gf_X8_16 (v := .ref a_this_reg) hx hb hown ht hK hP 0 rfl rfl dX8_doIndexed_123 ?_
                refine lv_iload_n hx hb dX8_doIndexed_126 rfl (lv_at hl 4 rfl) ?_
                obtain ⟨hi_173, hs⟩ := hs
                refine va_iald hx hb hK hP 4 3 rfl rfl hi_173 dX8_doIndexed_127 ?_
                refine lv_sipush (v := 255) hx hb dX8_doIndexed_128 (by decide) ?_
                refine lv_iand hx hb dX8_doIndexed_131 ?_
                have hi_174 := hs
                refine va_iast hx hb hK hP hD hS 1 0 rfl rfl hi_174 dX8_doIndexed_132 (fun H locs hP hD hS => ?_)
                have hP : va_P D vwCl [(a_this, oX8 a_this_bytes a_this_keys a_this_reg a_this_card a_this_filled a_this_taken a_this_line a_this_one a_this_two w_102.2), (a_this_bytes, .inl (k_this_bytes, 2048, .inl (upd r_this_bytes p3.toNatClampNeg ((r_this_reg p2.toNatClampNeg) &&& (255 : Int32))))), (a_this_keys, .inl (k_this_keys, 8, .inl r_this_keys)), (a_this_one, .inl (k_this_one, 40, .inl r_this_one)), (a_this_reg, .inl (k_this_reg, 16, .inl r_this_reg))] H := hP
                have hD : va_D A [(a_this, oX8 a_this_bytes a_this_keys a_this_reg a_this_card a_this_filled a_this_taken a_this_line a_this_one a_this_two w_102.2), (a_this_bytes, .inl (k_this_bytes, 2048, .inl (upd r_this_bytes p3.toNatClampNeg ((r_this_reg p2.toNatClampNeg) &&& (255 : Int32))))), (a_this_keys, .inl (k_this_keys, 8, .inl r_this_keys)), (a_this_one, .inl (k_this_one, 40, .inl r_this_one)), (a_this_reg, .inl (k_this_reg, 16, .inl r_this_reg))] := hD
                refine lv_goto (tgt := 211) hx hb dX8_doIndexed_133 (by decide) ?_
                exact hQ (w_102.2, (upd r_this_bytes p3.toNatClampNeg ((r_this_reg p2.toNatClampNeg) &&& (255 : Int32))), r_this_one, r_this_reg) _ _ _ _ dX8_doIndexed_211 hF.symm hP hD hS
            · skip
              rw [if_pos c_158] at hF
              rw [if_pos c_158] at hs
              refine lv_aload_n hx hb dX8_doIndexed_99 rfl (lv_at hl 2 rfl) ?_
              refine lv_iload_n hx hb dX8_doIndexed_100 rfl (lv_at hl 3 rfl) ?_
              refine lv_iload_n hx hb dX8_doIndexed_101 rfl (lv_at hl 4 rfl) ?_
              refine lv_iload_n hx hb dX8_doIndexed_102 rfl (lv_at hl 5 rfl) ?_
              refine lv_iload hx hb dX8_doIndexed_103 (lv_at hl 0 rfl) ?_
              have hi_175 := hs
              refine q_Vv (rest := []) (c_X8_numbers l D a_this a_this_bytes a_this_reg a_this_keys a_this_card a_this_filled a_this_taken a_this_line a_this_one a_this_two k_this_bytes k_this_reg w_102.2 r_this_bytes r_this_reg p1 p2 p3 (f_X8_signed (f_X8_field r_this_bytes p3 2)) hi_175) cv_X8_numbers hx hb hml hown ht hN hK hA hP hD hS hl.1 (km_X8_165) ⟨Nat.le_of_ble_eq_true rfl, Nat.le_of_ble_eq_true rfl⟩ rfl rfl [0, 1, 4] (by decide) rfl [0, 3] rfl (fun _ => rfl) (ci := 8) rfl rfl rfl rfl rfl (Nat.le_of_ble_eq_true rfl) dX8_doIndexed_105 ⟨Nat.zero_le _, Nat.zero_le _⟩ (fun w_176 H locs hw hP hD hS => ?_)
              have hP : va_P D vwCl [(a_this, oX8 a_this_bytes a_this_keys a_this_reg a_this_card a_this_filled a_this_taken a_this_line a_this_one a_this_two w_176.1), (a_this_bytes, .inl (k_this_bytes, 2048, .inl w_176.2.1)), (a_this_keys, .inl (k_this_keys, 8, .inl r_this_keys)), (a_this_one, .inl (k_this_one, 40, .inl r_this_one)), (a_this_reg, .inl (k_this_reg, 16, .inl w_176.2.2))] H := hP
              have hD : va_D A [(a_this, oX8 a_this_bytes a_this_keys a_this_reg a_this_card a_this_filled a_this_taken a_this_line a_this_one a_this_two w_176.1), (a_this_bytes, .inl (k_this_bytes, 2048, .inl w_176.2.1)), (a_this_keys, .inl (k_this_keys, 8, .inl r_this_keys)), (a_this_one, .inl (k_this_one, 40, .inl r_this_one)), (a_this_reg, .inl (k_this_reg, 16, .inl w_176.2.2))] := hD
              rw [q_let_of hw] at hF
              refine lv_goto (tgt := 211) hx hb dX8_doIndexed_108 (by decide) ?_
              exact hQ (w_176.1, w_176.2.1, r_this_one, w_176.2.2) _ _ _ _ dX8_doIndexed_211 hF.symm hP hD hS
      · skip
        rw [if_pos c_104] at hF
        rw [if_pos c_104] at hs
        refine lv_aload_n hx hb dX8_doIndexed_42 rfl (lv_at hl 1 rfl) ?_
        refine lv_iload_n hx hb dX8_doIndexed_43 rfl (lv_at hl 4 rfl) ?_
        refine lv_iconst (v := 4) hx hb dX8_doIndexed_44 (by decide) ?_
        obtain ⟨hi_177, hs⟩ := hs
        refine q_Vi (rest := []) (c_X8_field l D a_this a_this_bytes a_this_keys a_this_reg a_this_card a_this_filled a_this_taken a_this_line a_this_one a_this_two k_this_bytes w_102.2 r_this_bytes p3 4 hi_177) cv_X8_field hx hb hml hown ht hN hK hA hP hD hS hl.1 (km_X8_66) ⟨Nat.le_of_ble_eq_true rfl, Nat.le_of_ble_eq_true rfl⟩ rfl rfl [0, 1] (by decide) rfl [0] rfl (fun _ => rfl) (ci := 8) rfl rfl rfl rfl rfl (Nat.le_of_ble_eq_true rfl) dX8_doIndexed_45 ⟨Nat.zero_le _, Nat.zero_le _⟩ (fun r u H locs hw hP hD hS => ?_)
        obtain ⟨rfl, rfl⟩ := hw
        have hP : va_P D vwCl [(a_this, oX8 a_this_bytes a_this_keys a_this_reg a_this_card a_this_filled a_this_taken a_this_line a_this_one a_this_two w_102.2), (a_this_bytes, .inl (k_this_bytes, 2048, .inl r_this_bytes)), (a_this_keys, .inl (k_this_keys, 8, .inl r_this_keys)), (a_this_one, .inl (k_this_one, 40, .inl r_this_one)), (a_this_reg, .inl (k_this_reg, 16, .inl r_this_reg))] H := hP
        have hD : va_D A [(a_this, oX8 a_this_bytes a_this_keys a_this_reg a_this_card a_this_filled a_this_taken a_this_line a_this_one a_this_two w_102.2), (a_this_bytes, .inl (k_this_bytes, 2048, .inl r_this_bytes)), (a_this_keys, .inl (k_this_keys, 8, .inl r_this_keys)), (a_this_one, .inl (k_this_one, 40, .inl r_this_one)), (a_this_reg, .inl (k_this_reg, 16, .inl r_this_reg))] := hD
        refine lv_goto (tgt := 85) hx hb dX8_doIndexed_48 (by decide) ?_
        refine lv_istore (lv' := [(5, .int (f_X8_field r_this_bytes p3 4)), (4, .int (f_X8_sizeOf p1)), (0, .ref a_this), (1, .int p1), (2, .int p2), (3, .int p3)]) hx hb dX8_doIndexed_85 hl (by decide) rfl (fun ls hl => ?_)
        refine lv_iload_n hx hb dX8_doIndexed_87 rfl (lv_at hl 3 rfl) ?_
        refine lv_bipush (v := 79) hx hb dX8_doIndexed_88 (by decide) ?_
        refine lv_icmp_gt (tgt := 99) hx hb dX8_doIndexed_90 (by decide) (fun c_179 => ?_) (fun c_179 => ?_)
        · skip
          rw [if_pos c_179] at hF
          rw [if_pos c_179] at hs
          refine lv_aload_n hx hb dX8_doIndexed_99 rfl (lv_at hl 2 rfl) ?_
          refine lv_iload_n hx hb dX8_doIndexed_100 rfl (lv_at hl 3 rfl) ?_
          refine lv_iload_n hx hb dX8_doIndexed_101 rfl (lv_at hl 4 rfl) ?_
          refine lv_iload_n hx hb dX8_doIndexed_102 rfl (lv_at hl 5 rfl) ?_
          refine lv_iload hx hb dX8_doIndexed_103 (lv_at hl 0 rfl) ?_
          have hi_180 := hs
          refine q_Vv (rest := []) (c_X8_numbers l D a_this a_this_bytes a_this_reg a_this_keys a_this_card a_this_filled a_this_taken a_this_line a_this_one a_this_two k_this_bytes k_this_reg w_102.2 r_this_bytes r_this_reg p1 p2 p3 (f_X8_field r_this_bytes p3 4) hi_180) cv_X8_numbers hx hb hml hown ht hN hK hA hP hD hS hl.1 (km_X8_165) ⟨Nat.le_of_ble_eq_true rfl, Nat.le_of_ble_eq_true rfl⟩ rfl rfl [0, 1, 4] (by decide) rfl [0, 3] rfl (fun _ => rfl) (ci := 8) rfl rfl rfl rfl rfl (Nat.le_of_ble_eq_true rfl) dX8_doIndexed_105 ⟨Nat.zero_le _, Nat.zero_le _⟩ (fun w_181 H locs hw hP hD hS => ?_)
          have hP : va_P D vwCl [(a_this, oX8 a_this_bytes a_this_keys a_this_reg a_this_card a_this_filled a_this_taken a_this_line a_this_one a_this_two w_181.1), (a_this_bytes, .inl (k_this_bytes, 2048, .inl w_181.2.1)), (a_this_keys, .inl (k_this_keys, 8, .inl r_this_keys)), (a_this_one, .inl (k_this_one, 40, .inl r_this_one)), (a_this_reg, .inl (k_this_reg, 16, .inl w_181.2.2))] H := hP
          have hD : va_D A [(a_this, oX8 a_this_bytes a_this_keys a_this_reg a_this_card a_this_filled a_this_taken a_this_line a_this_one a_this_two w_181.1), (a_this_bytes, .inl (k_this_bytes, 2048, .inl w_181.2.1)), (a_this_keys, .inl (k_this_keys, 8, .inl r_this_keys)), (a_this_one, .inl (k_this_one, 40, .inl r_this_one)), (a_this_reg, .inl (k_this_reg, 16, .inl w_181.2.2))] := hD
          rw [q_let_of hw] at hF
          refine lv_goto (tgt := 211) hx hb dX8_doIndexed_108 (by decide) ?_
          exact hQ (w_181.1, w_181.2.1, r_this_one, w_181.2.2) _ _ _ _ dX8_doIndexed_211 hF.symm hP hD hS
        · skip
          rw [if_neg c_179] at hF
          rw [if_neg c_179] at hs
          refine lv_iload hx hb dX8_doIndexed_93 (lv_at hl 1 rfl) ?_
          refine lv_iconst (v := 2) hx hb dX8_doIndexed_95 (by decide) ?_
          refine lv_icmp_ne (tgt := 111) hx hb dX8_doIndexed_96 (by decide) (fun c_182 => ?_) (fun c_182 => ?_)
          · skip
            rw [if_neg c_182] at hF
            rw [if_neg c_182] at hs
            refine lv_iload_n hx hb dX8_doIndexed_111 rfl (lv_at hl 3 rfl) ?_
            refine lv_bipush (v := 66) hx hb dX8_doIndexed_112 (by decide) ?_
            refine lv_icmp_ne (tgt := 136) hx hb dX8_doIndexed_114 (by decide) (fun c_183 => ?_) (fun c_183 => ?_)
            · skip
              rw [if_neg c_183] at hF
              rw [if_neg c_183] at hs
              refine lv_iload_n hx hb dX8_doIndexed_136 rfl (lv_at hl 3 rfl) ?_
              refine lv_bipush (v := 67) hx hb dX8_doIndexed_137 (by decide) ?_
              refine lv_icmp_ne (tgt := 164) hx hb dX8_doIndexed_139 (by decide) (fun c_184 => ?_) (fun c_184 => ?_)
              · skip
                rw [if_neg c_184] at hF
                rw [if_neg c_184] at hs
                refine lv_iload hx hb dX8_doIndexed_164 (lv_at hl 1 rfl) ?_
                refine lv_if_ne (tgt := 179) hx hb dX8_doIndexed_166 (by decide) (fun c_185 => ?_) (fun c_185 => ?_)
                · skip
                  rw [if_neg c_185] at hF
                  rw [if_neg c_185] at hs
                  refine lv_iload_n hx hb dX8_doIndexed_179 rfl (lv_at hl 3 rfl) ?_
                  refine lv_bipush (v := 79) hx hb dX8_doIndexed_180 (by decide) ?_
                  refine lv_icmp_ne (tgt := 194) hx hb dX8_doIndexed_182 (by decide) (fun c_186 => ?_) (fun c_186 => ?_)
                  · skip
                    rw [if_neg c_186] at hF
                    rw [if_neg c_186] at hs
                    refine lv_aload_n hx hb dX8_doIndexed_194 rfl (lv_at hl 2 rfl) ?_
                    refine lv_aload_n hx hb dX8_doIndexed_195 rfl (lv_at hl 2 rfl) ?_
                    refine gf_X8_16 (v := .ref a_this_reg) hx hb hown ht hK hP 0 rfl rfl dX8_doIndexed_196 ?_
                    refine lv_iload_n hx hb dX8_doIndexed_199 rfl (lv_at hl 4 rfl) ?_
                    obtain ⟨hi_187, hs⟩ := hs
                    refine va_iald hx hb hK hP 4 3 rfl rfl hi_187 dX8_doIndexed_200 ?_
                    refine q_Vv (rest := []) (c_X8_spread l D a_this a_this_one a_this_bytes a_this_keys a_this_reg a_this_card a_this_filled a_this_taken a_this_line a_this_two k_this_one w_102.2 r_this_one (r_this_reg p2.toNatClampNeg)) cv_X8_spread hx hb hml hown ht hN hK hA hP hD hS hl.1 (km_X8_174) ⟨Nat.le_of_ble_eq_true rfl, Nat.le_of_ble_eq_true rfl⟩ rfl rfl [0, 3] (by decide) rfl [2] rfl (fun _ => rfl) (ci := 8) rfl rfl rfl rfl rfl (Nat.le_of_ble_eq_true rfl) dX8_doIndexed_201 ⟨Nat.zero_le _, Nat.zero_le _⟩ (fun w_188 H locs hw hP hD hS => ?_)
                    have hP : va_P D vwCl [(a_this, oX8 a_this_bytes a_this_keys a_this_reg a_this_card a_this_filled a_this_taken a_this_line a_this_one a_this_two w_102.2), (a_this_bytes, .inl (k_this_bytes, 2048, .inl r_this_bytes)), (a_this_keys, .inl (k_this_keys, 8, .inl r_this_keys)), (a_this_one, .inl (k_this_one, 40, .inl w_188)), (a_this_reg, .inl (k_this_reg, 16, .inl r_this_reg))] H := hP
                    have hD : va_D A [(a_this, oX8 a_this_bytes a_this_keys a_this_reg a_this_card a_this_filled a_this_taken a_this_line a_this_one a_this_two w_102.2), (a_this_bytes, .inl (k_this_bytes, 2048, .inl r_this_bytes)), (a_this_keys, .inl (k_this_keys, 8, .inl r_this_keys)), (a_this_one, .inl (k_this_one, 40, .inl w_188)), (a_this_reg, .inl (k_this_reg, 16, .inl r_this_reg))] := hD
                    rw [q_let_of hw] at hF
                    rw [q_let_of hw] at hs
                    refine lv_aload_n hx hb dX8_doIndexed_204 rfl (lv_at hl 2 rfl) ?_
                    refine lv_iload_n hx hb dX8_doIndexed_205 rfl (lv_at hl 5 rfl) ?_
                    refine lv_bipush (v := 8) hx hb dX8_doIndexed_206 (by decide) ?_
                    have hi_189 := hs
                    refine q_Vv (rest := []) (c_X8_store l D a_this a_this_bytes a_this_one a_this_keys a_this_reg a_this_card a_this_filled a_this_taken a_this_line a_this_two k_this_bytes k_this_one w_102.2 r_this_bytes w_188 p3 8 hi_189) cv_X8_store hx hb hml hown ht hN hK hA hP hD hS hl.1 (km_X8_177) ⟨Nat.le_of_ble_eq_true rfl, Nat.le_of_ble_eq_true rfl⟩ rfl rfl [0, 1, 3] (by decide) rfl [0, 2] rfl (fun _ => rfl) (ci := 8) rfl rfl rfl rfl rfl (Nat.le_of_ble_eq_true rfl) dX8_doIndexed_208 ⟨Nat.zero_le _, Nat.zero_le _⟩ (fun w_190 H locs hw hP hD hS => ?_)
                    have hP : va_P D vwCl [(a_this, oX8 a_this_bytes a_this_keys a_this_reg a_this_card a_this_filled a_this_taken a_this_line a_this_one a_this_two w_102.2), (a_this_bytes, .inl (k_this_bytes, 2048, .inl w_190)), (a_this_keys, .inl (k_this_keys, 8, .inl r_this_keys)), (a_this_one, .inl (k_this_one, 40, .inl w_188)), (a_this_reg, .inl (k_this_reg, 16, .inl r_this_reg))] H := hP
                    have hD : va_D A [(a_this, oX8 a_this_bytes a_this_keys a_this_reg a_this_card a_this_filled a_this_taken a_this_line a_this_one a_this_two w_102.2), (a_this_bytes, .inl (k_this_bytes, 2048, .inl w_190)), (a_this_keys, .inl (k_this_keys, 8, .inl r_this_keys)), (a_this_one, .inl (k_this_one, 40, .inl w_188)), (a_this_reg, .inl (k_this_reg, 16, .inl r_this_reg))] := hD
                    rw [q_let_of hw] at hF
                    exact hQ (w_102.2, w_190, w_188, r_this_reg) _ _ _ _ dX8_doIndexed_211 hF.symm hP hD hS
                  · skip
                    rw [if_pos c_186] at hF
                    rw [if_pos c_186] at hs
                    refine lv_aload_n hx hb dX8_doIndexed_185 rfl (lv_at hl 2 rfl) ?_
                    refine lv_iload_n hx hb dX8_doIndexed_186 rfl (lv_at hl 4 rfl) ?_
                    refine lv_iload_n hx hb dX8_doIndexed_187 rfl (lv_at hl 5 rfl) ?_
                    have hi_191 := hs
                    refine q_Vv (rest := []) (c_X8_toBinary l D a_this a_this_bytes a_this_one a_this_reg a_this_keys a_this_card a_this_filled a_this_taken a_this_line a_this_two k_this_bytes k_this_one k_this_reg w_102.2 r_this_bytes r_this_one r_this_reg p2 p3 hi_191) cv_X8_toBinary hx hb hml hown ht hN hK hA hP hD hS hl.1 (km_X8_171) ⟨Nat.le_of_ble_eq_true rfl, Nat.le_of_ble_eq_true rfl⟩ rfl rfl [0, 1, 3, 4] (by decide) rfl [0, 2, 3] rfl (fun _ => rfl) (ci := 8) rfl rfl rfl rfl rfl (Nat.le_of_ble_eq_true rfl) dX8_doIndexed_188 ⟨Nat.zero_le _, Nat.zero_le _⟩ (fun w_192 H locs hw hP hD hS => ?_)
                    have hP : va_P D vwCl [(a_this, oX8 a_this_bytes a_this_keys a_this_reg a_this_card a_this_filled a_this_taken a_this_line a_this_one a_this_two w_192.1), (a_this_bytes, .inl (k_this_bytes, 2048, .inl r_this_bytes)), (a_this_keys, .inl (k_this_keys, 8, .inl r_this_keys)), (a_this_one, .inl (k_this_one, 40, .inl w_192.2.1)), (a_this_reg, .inl (k_this_reg, 16, .inl w_192.2.2))] H := hP
                    have hD : va_D A [(a_this, oX8 a_this_bytes a_this_keys a_this_reg a_this_card a_this_filled a_this_taken a_this_line a_this_one a_this_two w_192.1), (a_this_bytes, .inl (k_this_bytes, 2048, .inl r_this_bytes)), (a_this_keys, .inl (k_this_keys, 8, .inl r_this_keys)), (a_this_one, .inl (k_this_one, 40, .inl w_192.2.1)), (a_this_reg, .inl (k_this_reg, 16, .inl w_192.2.2))] := hD
                    rw [q_let_of hw] at hF
                    refine lv_goto (tgt := 211) hx hb dX8_doIndexed_191 (by decide) ?_
                    exact hQ (w_192.1, r_this_bytes, w_192.2.1, w_192.2.2) _ _ _ _ dX8_doIndexed_211 hF.symm hP hD hS
                · skip
                  rw [if_pos c_185] at hF
                  rw [if_pos c_185] at hs
                  refine lv_aload_n hx hb dX8_doIndexed_169 rfl (lv_at hl 2 rfl) ?_
                  refine lv_iload_n hx hb dX8_doIndexed_170 rfl (lv_at hl 3 rfl) ?_
                  refine lv_iload_n hx hb dX8_doIndexed_171 rfl (lv_at hl 4 rfl) ?_
                  refine lv_iload_n hx hb dX8_doIndexed_172 rfl (lv_at hl 5 rfl) ?_
                  have hi_193 := hs
                  refine q_Vv (rest := []) (c_X8_ways l D a_this a_this_reg a_this_bytes a_this_keys a_this_card a_this_filled a_this_taken a_this_line a_this_one a_this_two k_this_reg w_102.2 r_this_reg p1 p2 p3 hi_193) cv_X8_ways hx hb hml hown ht hN hK hA hP hD hS hl.1 (km_X8_168) ⟨Nat.le_of_ble_eq_true rfl, Nat.le_of_ble_eq_true rfl⟩ rfl rfl [0, 4] (by decide) rfl [3] rfl (fun _ => rfl) (ci := 8) rfl rfl rfl rfl rfl (Nat.le_of_ble_eq_true rfl) dX8_doIndexed_173 ⟨Nat.zero_le _, Nat.zero_le _⟩ (fun w_194 H locs hw hP hD hS => ?_)
                  have hP : va_P D vwCl [(a_this, oX8 a_this_bytes a_this_keys a_this_reg a_this_card a_this_filled a_this_taken a_this_line a_this_one a_this_two w_194.1), (a_this_bytes, .inl (k_this_bytes, 2048, .inl r_this_bytes)), (a_this_keys, .inl (k_this_keys, 8, .inl r_this_keys)), (a_this_one, .inl (k_this_one, 40, .inl r_this_one)), (a_this_reg, .inl (k_this_reg, 16, .inl w_194.2))] H := hP
                  have hD : va_D A [(a_this, oX8 a_this_bytes a_this_keys a_this_reg a_this_card a_this_filled a_this_taken a_this_line a_this_one a_this_two w_194.1), (a_this_bytes, .inl (k_this_bytes, 2048, .inl r_this_bytes)), (a_this_keys, .inl (k_this_keys, 8, .inl r_this_keys)), (a_this_one, .inl (k_this_one, 40, .inl r_this_one)), (a_this_reg, .inl (k_this_reg, 16, .inl w_194.2))] := hD
                  rw [q_let_of hw] at hF
                  refine lv_goto (tgt := 211) hx hb dX8_doIndexed_176 (by decide) ?_
                  exact hQ (w_194.1, r_this_bytes, r_this_one, w_194.2) _ _ _ _ dX8_doIndexed_211 hF.symm hP hD hS
              · skip
                rw [if_pos c_184] at hF
                rw [if_pos c_184] at hs
                refine lv_aload_n hx hb dX8_doIndexed_142 rfl (lv_at hl 2 rfl) ?_
                refine gf_X8_16 (v := .ref a_this_reg) hx hb hown ht hK hP 0 rfl rfl dX8_doIndexed_143 ?_
                refine lv_iload_n hx hb dX8_doIndexed_146 rfl (lv_at hl 4 rfl) ?_
                refine lv_aload_n hx hb dX8_doIndexed_147 rfl (lv_at hl 2 rfl) ?_
                refine gf_X8_16 (v := .ref a_this_reg) hx hb hown ht hK hP 0 rfl rfl dX8_doIndexed_148 ?_
                refine lv_iload_n hx hb dX8_doIndexed_151 rfl (lv_at hl 4 rfl) ?_
                obtain ⟨hi_195, hs⟩ := hs
                refine va_iald hx hb hK hP 4 3 rfl rfl hi_195 dX8_doIndexed_152 ?_
                refine lv_sipush (v := (-256)) hx hb dX8_doIndexed_153 (by decide) ?_
                refine lv_iand hx hb dX8_doIndexed_156 ?_
                refine lv_iload hx hb dX8_doIndexed_157 (lv_at hl 0 rfl) ?_
                refine lv_iadd hx hb dX8_doIndexed_159 ?_
                have hi_196 := hs
                refine va_iast hx hb hK hP hD hS 4 3 rfl rfl hi_196 dX8_doIndexed_160 (fun H locs hP hD hS => ?_)
                have hP : va_P D vwCl [(a_this, oX8 a_this_bytes a_this_keys a_this_reg a_this_card a_this_filled a_this_taken a_this_line a_this_one a_this_two w_102.2), (a_this_bytes, .inl (k_this_bytes, 2048, .inl r_this_bytes)), (a_this_keys, .inl (k_this_keys, 8, .inl r_this_keys)), (a_this_one, .inl (k_this_one, 40, .inl r_this_one)), (a_this_reg, .inl (k_this_reg, 16, .inl (upd r_this_reg p2.toNatClampNeg (((r_this_reg p2.toNatClampNeg) &&& ((-256) : Int32)) + (f_X8_field r_this_bytes p3 4)))))] H := hP
                have hD : va_D A [(a_this, oX8 a_this_bytes a_this_keys a_this_reg a_this_card a_this_filled a_this_taken a_this_line a_this_one a_this_two w_102.2), (a_this_bytes, .inl (k_this_bytes, 2048, .inl r_this_bytes)), (a_this_keys, .inl (k_this_keys, 8, .inl r_this_keys)), (a_this_one, .inl (k_this_one, 40, .inl r_this_one)), (a_this_reg, .inl (k_this_reg, 16, .inl (upd r_this_reg p2.toNatClampNeg (((r_this_reg p2.toNatClampNeg) &&& ((-256) : Int32)) + (f_X8_field r_this_bytes p3 4)))))] := hD
                refine lv_goto (tgt := 211) hx hb dX8_doIndexed_161 (by decide) ?_
                exact hQ (w_102.2, r_this_bytes, r_this_one, (upd r_this_reg p2.toNatClampNeg (((r_this_reg p2.toNatClampNeg) &&& ((-256) : Int32)) + (f_X8_field r_this_bytes p3 4)))) _ _ _ _ dX8_doIndexed_211 hF.symm hP hD hS
            · skip
              rw [if_pos c_183] at hF
              rw [if_pos c_183] at hs
              refine lv_aload_n hx hb dX8_doIndexed_117 rfl (lv_at hl 2 rfl) ?_
              refine gf_X8_7 (v := .ref a_this_bytes) hx hb hown ht hK hP 0 rfl rfl dX8_doIndexed_118 ?_
              refine lv_iload_n hx hb dX8_doIndexed_121 rfl (lv_at hl 5 rfl) ?_
              refine lv_aload_n hx hb dX8_doIndexed_122 rfl (lv_at hl 2 rfl) ?_
              refine gf_X8_16 (v := .ref a_this_reg) hx hb hown ht hK hP 0 rfl rfl dX8_doIndexed_123 ?_
              refine lv_iload_n hx hb dX8_doIndexed_126 rfl (lv_at hl 4 rfl) ?_
              obtain ⟨hi_197, hs⟩ := hs
              refine va_iald hx hb hK hP 4 3 rfl rfl hi_197 dX8_doIndexed_127 ?_
              refine lv_sipush (v := 255) hx hb dX8_doIndexed_128 (by decide) ?_
              refine lv_iand hx hb dX8_doIndexed_131 ?_
              have hi_198 := hs
              refine va_iast hx hb hK hP hD hS 1 0 rfl rfl hi_198 dX8_doIndexed_132 (fun H locs hP hD hS => ?_)
              have hP : va_P D vwCl [(a_this, oX8 a_this_bytes a_this_keys a_this_reg a_this_card a_this_filled a_this_taken a_this_line a_this_one a_this_two w_102.2), (a_this_bytes, .inl (k_this_bytes, 2048, .inl (upd r_this_bytes p3.toNatClampNeg ((r_this_reg p2.toNatClampNeg) &&& (255 : Int32))))), (a_this_keys, .inl (k_this_keys, 8, .inl r_this_keys)), (a_this_one, .inl (k_this_one, 40, .inl r_this_one)), (a_this_reg, .inl (k_this_reg, 16, .inl r_this_reg))] H := hP
              have hD : va_D A [(a_this, oX8 a_this_bytes a_this_keys a_this_reg a_this_card a_this_filled a_this_taken a_this_line a_this_one a_this_two w_102.2), (a_this_bytes, .inl (k_this_bytes, 2048, .inl (upd r_this_bytes p3.toNatClampNeg ((r_this_reg p2.toNatClampNeg) &&& (255 : Int32))))), (a_this_keys, .inl (k_this_keys, 8, .inl r_this_keys)), (a_this_one, .inl (k_this_one, 40, .inl r_this_one)), (a_this_reg, .inl (k_this_reg, 16, .inl r_this_reg))] := hD
              refine lv_goto (tgt := 211) hx hb dX8_doIndexed_133 (by decide) ?_
              exact hQ (w_102.2, (upd r_this_bytes p3.toNatClampNeg ((r_this_reg p2.toNatClampNeg) &&& (255 : Int32))), r_this_one, r_this_reg) _ _ _ _ dX8_doIndexed_211 hF.symm hP hD hS
          · skip
            rw [if_pos c_182] at hF
            rw [if_pos c_182] at hs
            refine lv_aload_n hx hb dX8_doIndexed_99 rfl (lv_at hl 2 rfl) ?_
            refine lv_iload_n hx hb dX8_doIndexed_100 rfl (lv_at hl 3 rfl) ?_
            refine lv_iload_n hx hb dX8_doIndexed_101 rfl (lv_at hl 4 rfl) ?_
            refine lv_iload_n hx hb dX8_doIndexed_102 rfl (lv_at hl 5 rfl) ?_
            refine lv_iload hx hb dX8_doIndexed_103 (lv_at hl 0 rfl) ?_
            have hi_199 := hs
            refine q_Vv (rest := []) (c_X8_numbers l D a_this a_this_bytes a_this_reg a_this_keys a_this_card a_this_filled a_this_taken a_this_line a_this_one a_this_two k_this_bytes k_this_reg w_102.2 r_this_bytes r_this_reg p1 p2 p3 (f_X8_field r_this_bytes p3 4) hi_199) cv_X8_numbers hx hb hml hown ht hN hK hA hP hD hS hl.1 (km_X8_165) ⟨Nat.le_of_ble_eq_true rfl, Nat.le_of_ble_eq_true rfl⟩ rfl rfl [0, 1, 4] (by decide) rfl [0, 3] rfl (fun _ => rfl) (ci := 8) rfl rfl rfl rfl rfl (Nat.le_of_ble_eq_true rfl) dX8_doIndexed_105 ⟨Nat.zero_le _, Nat.zero_le _⟩ (fun w_200 H locs hw hP hD hS => ?_)
            have hP : va_P D vwCl [(a_this, oX8 a_this_bytes a_this_keys a_this_reg a_this_card a_this_filled a_this_taken a_this_line a_this_one a_this_two w_200.1), (a_this_bytes, .inl (k_this_bytes, 2048, .inl w_200.2.1)), (a_this_keys, .inl (k_this_keys, 8, .inl r_this_keys)), (a_this_one, .inl (k_this_one, 40, .inl r_this_one)), (a_this_reg, .inl (k_this_reg, 16, .inl w_200.2.2))] H := hP
            have hD : va_D A [(a_this, oX8 a_this_bytes a_this_keys a_this_reg a_this_card a_this_filled a_this_taken a_this_line a_this_one a_this_two w_200.1), (a_this_bytes, .inl (k_this_bytes, 2048, .inl w_200.2.1)), (a_this_keys, .inl (k_this_keys, 8, .inl r_this_keys)), (a_this_one, .inl (k_this_one, 40, .inl r_this_one)), (a_this_reg, .inl (k_this_reg, 16, .inl w_200.2.2))] := hD
            rw [q_let_of hw] at hF
            refine lv_goto (tgt := 211) hx hb dX8_doIndexed_108 (by decide) ?_
            exact hQ (w_200.1, w_200.2.1, r_this_one, w_200.2.2) _ _ _ _ dX8_doIndexed_211 hF.symm hP hD hS
    · have c_103 : ¬ w_102.1 = true := by rw [(bI_eq0 _).mp c_103]; decide
      rw [if_neg c_103] at hF
      rw [if_neg c_103] at hs
      exact hQ (w_102.2, r_this_bytes, r_this_one, r_this_reg) _ _ _ _ dX8_doIndexed_35 hF.symm hP hD hS
theorem cv_X8_doIndexed : qV yX8_doIndexed cX8_doIndexed 6 none 3 := ⟨kc_X8_doIndexed, kt_X8_doIndexed, ks_X8_doIndexed, kn_X8, by decide, by decide +kernel⟩
def f_X8_several_L18 (p1 : Bool) (p2 : Int32) (p3 : Int32) (p4 : Int32) : Nat → (Int32 × Int32 × Int32 × Int32 × Bool × Bool × Int32 × Int32 × Int32 × Int32 × Bool × Bool × Bool × Int32 × Int32 × Int32 × Int32 × Int32 × Int32 × Int32 × Int32 × Int32 × Int32 × Int32 × Int32) → (Nat → Int32) → (Nat → Int32) → Int32 → (Int32 × Int32 × Int32 × Int32 × Bool × Bool × Int32 × Int32 × Int32 × Int32 × Bool × Bool × Bool × Int32 × Int32 × Int32 × Int32 × Int32 × Int32 × Int32 × Int32 × Int32 × Int32 × Int32 × Int32) × (Nat → Int32) × (Nat → Int32)
  | 0, o_this_L18, r_this_bytes_L18, r_this_reg_L18, x5 => (o_this_L18, r_this_bytes_L18, r_this_reg_L18)
  | fuel + 1, o_this_L18, r_this_bytes_L18, r_this_reg_L18, x5 => (if p3 ≤ x5 then (o_this_L18, r_this_bytes_L18, r_this_reg_L18) else (if p1 = true then (q_let (f_X8_put r_this_bytes_L18 (p4 + ((4 : Int32) * x5)) (r_this_reg_L18 ((p2 + x5) - (p2 + x5) / (16 : Int32) * (16 : Int32)).toNatClampNeg) 4) fun w_12 => f_X8_several_L18 p1 p2 p3 p4 fuel o_this_L18 w_12 r_this_reg_L18 (x5 + (1 : Int32))) else f_X8_several_L18 p1 p2 p3 p4 fuel o_this_L18 r_this_bytes_L18 (upd r_this_reg_L18 ((p2 + x5) - (p2 + x5) / (16 : Int32) * (16 : Int32)).toNatClampNeg (f_X8_field r_this_bytes_L18 (p4 + ((4 : Int32) * x5)) 4)) (x5 + (1 : Int32))))
def s_X8_several_L18 (p1 : Bool) (p2 : Int32) (p3 : Int32) (p4 : Int32) : Nat → (Int32 × Int32 × Int32 × Int32 × Bool × Bool × Int32 × Int32 × Int32 × Int32 × Bool × Bool × Bool × Int32 × Int32 × Int32 × Int32 × Int32 × Int32 × Int32 × Int32 × Int32 × Int32 × Int32 × Int32) → (Nat → Int32) → (Nat → Int32) → Int32 → Prop
  | 0, _, _, _, _ => True
  | fuel + 1, o_this_L18, r_this_bytes_L18, r_this_reg_L18, x5 => (if p3 ≤ x5 then True else (if p1 = true then (vp_in ((p2 + x5) - (p2 + x5) / (16 : Int32) * (16 : Int32)) 16 ∧ (s_X8_put r_this_bytes_L18 (p4 + ((4 : Int32) * x5)) (r_this_reg_L18 ((p2 + x5) - (p2 + x5) / (16 : Int32) * (16 : Int32)).toNatClampNeg) 4 ∧ (q_let (f_X8_put r_this_bytes_L18 (p4 + ((4 : Int32) * x5)) (r_this_reg_L18 ((p2 + x5) - (p2 + x5) / (16 : Int32) * (16 : Int32)).toNatClampNeg) 4) fun w_12 => s_X8_several_L18 p1 p2 p3 p4 fuel o_this_L18 w_12 r_this_reg_L18 (x5 + (1 : Int32))))) else (s_X8_field r_this_bytes_L18 (p4 + ((4 : Int32) * x5)) 4 ∧ (vp_in ((p2 + x5) - (p2 + x5) / (16 : Int32) * (16 : Int32)) 16 ∧ s_X8_several_L18 p1 p2 p3 p4 fuel o_this_L18 r_this_bytes_L18 (upd r_this_reg_L18 ((p2 + x5) - (p2 + x5) / (16 : Int32) * (16 : Int32)).toNatClampNeg (f_X8_field r_this_bytes_L18 (p4 + ((4 : Int32) * x5)) 4)) (x5 + (1 : Int32))))))
def f_X8_several (o_this : Int32 × Int32 × Int32 × Int32 × Bool × Bool × Int32 × Int32 × Int32 × Int32 × Bool × Bool × Bool × Int32 × Int32 × Int32 × Int32 × Int32 × Int32 × Int32 × Int32 × Int32 × Int32 × Int32 × Int32) (r_this_bytes : Nat → Int32) (r_this_keys : Nat → Int32) (r_this_reg : Nat → Int32) (p1 : Bool) (p2 : Int32) (p3 : Int32) (p4 : Int32) : (Int32 × Int32 × Int32 × Int32 × Bool × Bool × Int32 × Int32 × Int32 × Int32 × Bool × Bool × Bool × Int32 × Int32 × Int32 × Int32 × Int32 × Int32 × Int32 × Int32 × Int32 × Int32 × Int32 × Int32) × (Nat → Int32) × (Nat → Int32) := (q_let (f_X8_good o_this r_this_keys p4 ((4 : Int32) * p3) 4 p1) fun w_2 => (if w_2.1 = true then f_X8_several_L18 p1 p2 p3 p4 (((p3 : Int32).toInt - (0 : Int32).toInt).toNat + 1) w_2.2 r_this_bytes r_this_reg 0 else (w_2.2, r_this_bytes, r_this_reg)))
def s_X8_several (o_this : Int32 × Int32 × Int32 × Int32 × Bool × Bool × Int32 × Int32 × Int32 × Int32 × Bool × Bool × Bool × Int32 × Int32 × Int32 × Int32 × Int32 × Int32 × Int32 × Int32 × Int32 × Int32 × Int32 × Int32) (r_this_bytes : Nat → Int32) (r_this_keys : Nat → Int32) (r_this_reg : Nat → Int32) (p1 : Bool) (p2 : Int32) (p3 : Int32) (p4 : Int32) : Prop := (s_X8_good o_this r_this_keys p4 ((4 : Int32) * p3) 4 p1 ∧ (q_let (f_X8_good o_this r_this_keys p4 ((4 : Int32) * p3) 4 p1) fun w_2 => (if w_2.1 = true then s_X8_several_L18 p1 p2 p3 p4 (((p3 : Int32).toInt - (0 : Int32).toInt).toNat + 1) w_2.2 r_this_bytes r_this_reg 0 else True)))
set_option linter.all false in
set_option maxHeartbeats 4000000 in
set_option maxRecDepth 100000 in
theorem c_X8_several (l : Launch) (D : va_G) (a_this a_this_bytes a_this_keys a_this_reg a_this_card a_this_filled a_this_taken a_this_line a_this_one a_this_two : Nat) (k_this_bytes k_this_keys k_this_reg : ClassId) (o_this : Int32 × Int32 × Int32 × Int32 × Bool × Bool × Int32 × Int32 × Int32 × Int32 × Bool × Bool × Bool × Int32 × Int32 × Int32 × Int32 × Int32 × Int32 × Int32 × Int32 × Int32 × Int32 × Int32 × Int32) (r_this_bytes : Nat → Int32) (r_this_keys : Nat → Int32) (r_this_reg : Nat → Int32) (p1 : Bool) (p2 : Int32) (p3 : Int32) (p4 : Int32) (hs : s_X8_several o_this r_this_bytes r_this_keys r_this_reg p1 p2 p3 p4) : CtV l yX8_several cX8_several 7 none { frames := 2, cells := 0, slots := 0, locals := 47 } D [.ref a_this, .int (bI p1), .int p2, .int p3, .int p4] [(a_this, oX8 a_this_bytes a_this_keys a_this_reg a_this_card a_this_filled a_this_taken a_this_line a_this_one a_this_two o_this), (a_this_bytes, .inl (k_this_bytes, 2048, .inl r_this_bytes)), (a_this_keys, .inl (k_this_keys, 8, .inl r_this_keys)), (a_this_reg, .inl (k_this_reg, 16, .inl r_this_reg))] [(k_this_bytes, .int), (k_this_keys, .int), (k_this_reg, .int)] (fun (u : (Int32 × Int32 × Int32 × Int32 × Bool × Bool × Int32 × Int32 × Int32 × Int32 × Bool × Bool × Bool × Int32 × Int32 × Int32 × Int32 × Int32 × Int32 × Int32 × Int32 × Int32 × Int32 × Int32 × Int32) × (Nat → Int32) × (Nat → Int32)) => f_X8_several o_this r_this_bytes r_this_keys r_this_reg p1 p2 p3 p4 = u) (fun u => [(a_this, oX8 a_this_bytes a_this_keys a_this_reg a_this_card a_this_filled a_this_taken a_this_line a_this_one a_this_two u.1), (a_this_bytes, .inl (k_this_bytes, 2048, .inl u.2.1)), (a_this_keys, .inl (k_this_keys, 8, .inl r_this_keys)), (a_this_reg, .inl (k_this_reg, 16, .inl u.2.2))]) := by
  refine CtV.of (by decide) (Nat.le_of_ble_eq_true rfl) ?_
  intro p e s m below meth c A ls Q hE hP hD hS hl hQ
  obtain ⟨hx, hb, hml, hown, ht, hN, hK, hA⟩ := hE
  have hown : s.vm.findClass RX8 = some m.cls := hown
  have hl : lv_has ls 7 [(0, .ref a_this), (1, .int (bI p1)), (2, .int p2), (3, .int p3), (4, .int p4)] := hl
  obtain ⟨F, hF⟩ : ∃ F, f_X8_several o_this r_this_bytes r_this_keys r_this_reg p1 p2 p3 p4 = F := ⟨_, rfl⟩
  rw [hF] at hQ
  unfold f_X8_several at hF
  unfold s_X8_several at hs
  refine lv_aload_n hx hb dX8_several_0 rfl (lv_at hl 0 rfl) ?_
  refine lv_iload hx hb dX8_several_1 (lv_at hl 4 rfl) ?_
  refine lv_iconst (v := 4) hx hb dX8_several_3 (by decide) ?_
  refine lv_iload_n hx hb dX8_several_4 rfl (lv_at hl 3 rfl) ?_
  refine lv_imul hx hb dX8_several_5 ?_
  refine lv_iconst (v := 4) hx hb dX8_several_6 (by decide) ?_
  refine lv_iload_n hx hb dX8_several_7 rfl (lv_at hl 1 rfl) ?_
  obtain ⟨hi_1, hs⟩ := hs
  refine q_Vi (rest := []) (c_X8_good l D a_this a_this_keys a_this_bytes a_this_reg a_this_card a_this_filled a_this_taken a_this_line a_this_one a_this_two k_this_keys o_this r_this_keys p4 ((4 : Int32) * p3) 4 p1 hi_1) cv_X8_good hx hb hml hown ht hN hK hA hP hD hS hl.1 (km_X8_158) ⟨Nat.le_of_ble_eq_true rfl, Nat.le_of_ble_eq_true rfl⟩ rfl rfl [0, 2] (by decide) rfl [1] rfl (fun _ => rfl) (ci := 8) rfl rfl rfl rfl rfl (Nat.le_of_ble_eq_true rfl) dX8_several_8 ⟨Nat.zero_le _, Nat.zero_le _⟩ (fun r w_2 H locs hw hP hD hS => ?_)
  obtain ⟨hw, hr⟩ := hw
  subst hr
  have hP : va_P D vwCl [(a_this, oX8 a_this_bytes a_this_keys a_this_reg a_this_card a_this_filled a_this_taken a_this_line a_this_one a_this_two w_2.2), (a_this_bytes, .inl (k_this_bytes, 2048, .inl r_this_bytes)), (a_this_keys, .inl (k_this_keys, 8, .inl r_this_keys)), (a_this_reg, .inl (k_this_reg, 16, .inl r_this_reg))] H := hP
  have hD : va_D A [(a_this, oX8 a_this_bytes a_this_keys a_this_reg a_this_card a_this_filled a_this_taken a_this_line a_this_one a_this_two w_2.2), (a_this_bytes, .inl (k_this_bytes, 2048, .inl r_this_bytes)), (a_this_keys, .inl (k_this_keys, 8, .inl r_this_keys)), (a_this_reg, .inl (k_this_reg, 16, .inl r_this_reg))] := hD
  rw [q_let_of hw] at hF
  rw [q_let_of hw] at hs
  refine lv_if_ne (tgt := 15) hx hb dX8_several_11 (by decide) (fun c_3 => ?_) (fun c_3 => ?_)
  · have c_3 := (bI_ne0 _).mp c_3
    rw [if_pos c_3] at hF
    rw [if_pos c_3] at hs
    refine lv_iconst (v := 0) hx hb dX8_several_15 (by decide) ?_
    refine lv_istore (lv' := [(5, .int 0), (0, .ref a_this), (1, .int (bI p1)), (2, .int p2), (3, .int p3), (4, .int p4)]) hx hb dX8_several_16 hl (by decide) rfl (fun ls hl => ?_)
    have L18 : ∀ (fuel : Nat) (o_this_L18 : Int32 × Int32 × Int32 × Int32 × Bool × Bool × Int32 × Int32 × Int32 × Int32 × Bool × Bool × Bool × Int32 × Int32 × Int32 × Int32 × Int32 × Int32 × Int32 × Int32 × Int32 × Int32 × Int32 × Int32) (r_this_bytes_L18 : Nat → Int32) (r_this_reg_L18 : Nat → Int32) (x5 : Int32) (H : Heap) (locs : List Loc) (ls : Array Slot), ((p3 : Int32).toInt - (x5 : Int32).toInt).toNat < fuel → va_P D vwCl [(a_this, oX8 a_this_bytes a_this_keys a_this_reg a_this_card a_this_filled a_this_taken a_this_line a_this_one a_this_two o_this_L18), (a_this_bytes, .inl (k_this_bytes, 2048, .inl r_this_bytes_L18)), (a_this_keys, .inl (k_this_keys, 8, .inl r_this_keys)), (a_this_reg, .inl (k_this_reg, 16, .inl r_this_reg_L18))] H → va_D A [(a_this, oX8 a_this_bytes a_this_keys a_this_reg a_this_card a_this_filled a_this_taken a_this_line a_this_one a_this_two o_this_L18), (a_this_bytes, .inl (k_this_bytes, 2048, .inl r_this_bytes_L18)), (a_this_keys, .inl (k_this_keys, 8, .inl r_this_keys)), (a_this_reg, .inl (k_this_reg, 16, .inl r_this_reg_L18))] → va_S A s.heap H locs → lv_has ls 7 [(5, .int x5), (0, .ref a_this), (1, .int (bI p1)), (2, .int p2), (3, .int p3), (4, .int p4)] → f_X8_several_L18 p1 p2 p3 p4 fuel o_this_L18 r_this_bytes_L18 r_this_reg_L18 x5 = F → s_X8_several_L18 p1 p2 p3 p4 fuel o_this_L18 r_this_bytes_L18 r_this_reg_L18 x5 → W p l e ({ frames := 2, cells := 0, slots := 0, locals := 47 } : Room) s m ([.ref a_this, .int (bI p1), .int p2, .int p3, .int p4] : List Value).toArray below meth c H locs 0 0 Q (F0 m 18 ls []) := by
      intro fuel
      induction fuel with
      | zero => intro o_this_L18 r_this_bytes_L18 r_this_reg_L18 x5 H locs ls hm; exact absurd hm (Nat.not_lt_zero _)
      | succ fuel ih =>
        intro o_this_L18 r_this_bytes_L18 r_this_reg_L18 x5 H locs ls hm  hP hD hS hl hF hs
        rw [f_X8_several_L18] at hF
        rw [s_X8_several_L18] at hs
        skip
        refine lv_iload hx hb dX8_several_18 (lv_at hl 0 rfl) ?_
        refine lv_iload_n hx hb dX8_several_20 rfl (lv_at hl 4 rfl) ?_
        refine lv_icmp_ge (tgt := 84) hx hb dX8_several_21 (by decide) (fun c_5 => ?_) (fun c_5 => ?_)
        · skip
          rw [if_pos c_5] at hF
          rw [if_pos c_5] at hs
          exact hQ (o_this_L18, r_this_bytes_L18, r_this_reg_L18) _ _ _ _ dX8_several_84 hF.symm hP hD hS
        · skip
          rw [if_neg c_5] at hF
          rw [if_neg c_5] at hs
          refine lv_iload_n hx hb dX8_several_24 rfl (lv_at hl 3 rfl) ?_
          refine lv_iload hx hb dX8_several_25 (lv_at hl 0 rfl) ?_
          refine lv_iadd hx hb dX8_several_27 ?_
          refine lv_bipush (v := 16) hx hb dX8_several_28 (by decide) ?_
          refine lv_irem hx hb dX8_several_30 (by decide) ?_
          refine lv_istore (lv' := [(6, .int ((p2 + x5) - (p2 + x5) / (16 : Int32) * (16 : Int32))), (5, .int x5), (0, .ref a_this), (1, .int (bI p1)), (2, .int p2), (3, .int p3), (4, .int p4)]) hx hb dX8_several_31 hl (by decide) rfl (fun ls hl => ?_)
          refine lv_iload_n hx hb dX8_several_33 rfl (lv_at hl 3 rfl) ?_
          refine lv_if_eq (tgt := 59) hx hb dX8_several_34 (by decide) (fun c_6 => ?_) (fun c_6 => ?_)
          · have c_6 : ¬ p1 = true := by rw [(bI_eq0 _).mp c_6]; decide
            rw [if_neg c_6] at hF
            rw [if_neg c_6] at hs
            refine lv_aload_n hx hb dX8_several_59 rfl (lv_at hl 2 rfl) ?_
            refine gf_X8_16 (v := .ref a_this_reg) hx hb hown ht hK hP 0 rfl rfl dX8_several_60 ?_
            refine lv_iload hx hb dX8_several_63 (lv_at hl 0 rfl) ?_
            refine lv_aload_n hx hb dX8_several_65 rfl (lv_at hl 2 rfl) ?_
            refine lv_iload hx hb dX8_several_66 (lv_at hl 6 rfl) ?_
            refine lv_iconst (v := 4) hx hb dX8_several_68 (by decide) ?_
            refine lv_iload hx hb dX8_several_69 (lv_at hl 1 rfl) ?_
            refine lv_imul hx hb dX8_several_71 ?_
            refine lv_iadd hx hb dX8_several_72 ?_
            refine lv_iconst (v := 4) hx hb dX8_several_73 (by decide) ?_
            obtain ⟨hi_7, hs⟩ := hs
            refine q_Vi (rest := [.int ((p2 + x5) - (p2 + x5) / (16 : Int32) * (16 : Int32)), .ref a_this_reg]) (c_X8_field l D a_this a_this_bytes a_this_keys a_this_reg a_this_card a_this_filled a_this_taken a_this_line a_this_one a_this_two k_this_bytes o_this_L18 r_this_bytes_L18 (p4 + ((4 : Int32) * x5)) 4 hi_7) cv_X8_field hx hb hml hown ht hN hK hA hP hD hS hl.1 (km_X8_66) ⟨Nat.le_of_ble_eq_true rfl, Nat.le_of_ble_eq_true rfl⟩ rfl rfl [0, 1] (by decide) rfl [0] rfl (fun _ => rfl) (ci := 8) rfl rfl rfl rfl rfl (Nat.le_of_ble_eq_true rfl) dX8_several_74 ⟨Nat.zero_le _, Nat.zero_le _⟩ (fun r u H locs hw hP hD hS => ?_)
            obtain ⟨rfl, rfl⟩ := hw
            have hP : va_P D vwCl [(a_this, oX8 a_this_bytes a_this_keys a_this_reg a_this_card a_this_filled a_this_taken a_this_line a_this_one a_this_two o_this_L18), (a_this_bytes, .inl (k_this_bytes, 2048, .inl r_this_bytes_L18)), (a_this_keys, .inl (k_this_keys, 8, .inl r_this_keys)), (a_this_reg, .inl (k_this_reg, 16, .inl r_this_reg_L18))] H := hP
            have hD : va_D A [(a_this, oX8 a_this_bytes a_this_keys a_this_reg a_this_card a_this_filled a_this_taken a_this_line a_this_one a_this_two o_this_L18), (a_this_bytes, .inl (k_this_bytes, 2048, .inl r_this_bytes_L18)), (a_this_keys, .inl (k_this_keys, 8, .inl r_this_keys)), (a_this_reg, .inl (k_this_reg, 16, .inl r_this_reg_L18))] := hD
            obtain ⟨hi_9, hs⟩ := hs
            refine va_iast hx hb hK hP hD hS 3 2 rfl rfl hi_9 dX8_several_77 (fun H locs hP hD hS => ?_)
            have hP : va_P D vwCl [(a_this, oX8 a_this_bytes a_this_keys a_this_reg a_this_card a_this_filled a_this_taken a_this_line a_this_one a_this_two o_this_L18), (a_this_bytes, .inl (k_this_bytes, 2048, .inl r_this_bytes_L18)), (a_this_keys, .inl (k_this_keys, 8, .inl r_this_keys)), (a_this_reg, .inl (k_this_reg, 16, .inl (upd r_this_reg_L18 ((p2 + x5) - (p2 + x5) / (16 : Int32) * (16 : Int32)).toNatClampNeg (f_X8_field r_this_bytes_L18 (p4 + ((4 : Int32) * x5)) 4))))] H := hP
            have hD : va_D A [(a_this, oX8 a_this_bytes a_this_keys a_this_reg a_this_card a_this_filled a_this_taken a_this_line a_this_one a_this_two o_this_L18), (a_this_bytes, .inl (k_this_bytes, 2048, .inl r_this_bytes_L18)), (a_this_keys, .inl (k_this_keys, 8, .inl r_this_keys)), (a_this_reg, .inl (k_this_reg, 16, .inl (upd r_this_reg_L18 ((p2 + x5) - (p2 + x5) / (16 : Int32) * (16 : Int32)).toNatClampNeg (f_X8_field r_this_bytes_L18 (p4 + ((4 : Int32) * x5)) 4))))] := hD
            refine lv_iinc (v := (x5 + (1 : Int32))) (lv' := [(5, .int (x5 + (1 : Int32))), (6, .int ((p2 + x5) - (p2 + x5) / (16 : Int32) * (16 : Int32))), (0, .ref a_this), (1, .int (bI p1)), (2, .int p2), (3, .int p3), (4, .int p4)]) hx hb dX8_several_78 hl (k := 1) rfl rfl (by decide) rfl (fun ls hl => ?_)
            refine lv_goto (tgt := 18) hx hb dX8_several_81 (by decide) ?_
            exact ih o_this_L18 r_this_bytes_L18 (upd r_this_reg_L18 ((p2 + x5) - (p2 + x5) / (16 : Int32) * (16 : Int32)).toNatClampNeg (f_X8_field r_this_bytes_L18 (p4 + ((4 : Int32) * x5)) 4)) (x5 + (1 : Int32)) _ _ _ (by first | exact q_up hm c_3 | exact q_up hm c_5 | exact q_up hm c_6)  hP hD hS (lv_sub hl [0, 2, 3, 4, 5, 6] rfl) hF hs
          · have c_6 := (bI_ne0 _).mp c_6
            rw [if_pos c_6] at hF
            rw [if_pos c_6] at hs
            refine lv_aload_n hx hb dX8_several_37 rfl (lv_at hl 2 rfl) ?_
            refine lv_iload hx hb dX8_several_38 (lv_at hl 6 rfl) ?_
            refine lv_iconst (v := 4) hx hb dX8_several_40 (by decide) ?_
            refine lv_iload hx hb dX8_several_41 (lv_at hl 1 rfl) ?_
            refine lv_imul hx hb dX8_several_43 ?_
            refine lv_iadd hx hb dX8_several_44 ?_
            refine lv_aload_n hx hb dX8_several_45 rfl (lv_at hl 2 rfl) ?_
            refine gf_X8_16 (v := .ref a_this_reg) hx hb hown ht hK hP 0 rfl rfl dX8_several_46 ?_
            refine lv_iload hx hb dX8_several_49 (lv_at hl 0 rfl) ?_
            obtain ⟨hi_10, hs⟩ := hs
            refine va_iald hx hb hK hP 3 2 rfl rfl hi_10 dX8_several_51 ?_
            refine lv_iconst (v := 4) hx hb dX8_several_52 (by decide) ?_
            obtain ⟨hi_11, hs⟩ := hs
            refine q_Vv (rest := []) (c_X8_put l D a_this a_this_bytes a_this_keys a_this_reg a_this_card a_this_filled a_this_taken a_this_line a_this_one a_this_two k_this_bytes o_this_L18 r_this_bytes_L18 (p4 + ((4 : Int32) * x5)) (r_this_reg_L18 ((p2 + x5) - (p2 + x5) / (16 : Int32) * (16 : Int32)).toNatClampNeg) 4 hi_11) cv_X8_put hx hb hml hown ht hN hK hA hP hD hS hl.1 (km_X8_55) ⟨Nat.le_of_ble_eq_true rfl, Nat.le_of_ble_eq_true rfl⟩ rfl rfl [0, 1] (by decide) rfl [0] rfl (fun _ => rfl) (ci := 8) rfl rfl rfl rfl rfl (Nat.le_of_ble_eq_true rfl) dX8_several_53 ⟨Nat.zero_le _, Nat.zero_le _⟩ (fun w_12 H locs hw hP hD hS => ?_)
            have hP : va_P D vwCl [(a_this, oX8 a_this_bytes a_this_keys a_this_reg a_this_card a_this_filled a_this_taken a_this_line a_this_one a_this_two o_this_L18), (a_this_bytes, .inl (k_this_bytes, 2048, .inl w_12)), (a_this_keys, .inl (k_this_keys, 8, .inl r_this_keys)), (a_this_reg, .inl (k_this_reg, 16, .inl r_this_reg_L18))] H := hP
            have hD : va_D A [(a_this, oX8 a_this_bytes a_this_keys a_this_reg a_this_card a_this_filled a_this_taken a_this_line a_this_one a_this_two o_this_L18), (a_this_bytes, .inl (k_this_bytes, 2048, .inl w_12)), (a_this_keys, .inl (k_this_keys, 8, .inl r_this_keys)), (a_this_reg, .inl (k_this_reg, 16, .inl r_this_reg_L18))] := hD
            rw [q_let_of hw] at hF
            rw [q_let_of hw] at hs
            refine lv_goto (tgt := 78) hx hb dX8_several_56 (by decide) ?_
            refine lv_iinc (v := (x5 + (1 : Int32))) (lv' := [(5, .int (x5 + (1 : Int32))), (6, .int ((p2 + x5) - (p2 + x5) / (16 : Int32) * (16 : Int32))), (0, .ref a_this), (1, .int (bI p1)), (2, .int p2), (3, .int p3), (4, .int p4)]) hx hb dX8_several_78 hl (k := 1) rfl rfl (by decide) rfl (fun ls hl => ?_)
            refine lv_goto (tgt := 18) hx hb dX8_several_81 (by decide) ?_
            exact ih o_this_L18 w_12 r_this_reg_L18 (x5 + (1 : Int32)) _ _ _ (by first | exact q_up hm c_3 | exact q_up hm c_5 | exact q_up hm c_6)  hP hD hS (lv_sub hl [0, 2, 3, 4, 5, 6] rfl) hF hs
    exact L18 (((p3 : Int32).toInt - (0 : Int32).toInt).toNat + 1) w_2.2 r_this_bytes r_this_reg 0 _ _ _ (Nat.lt_succ_self _)  hP hD hS (lv_sub hl [0, 1, 2, 3, 4, 5] rfl) hF hs
  · have c_3 : ¬ w_2.1 = true := by rw [(bI_eq0 _).mp c_3]; decide
    rw [if_neg c_3] at hF
    rw [if_neg c_3] at hs
    exact hQ (w_2.2, r_this_bytes, r_this_reg) _ _ _ _ dX8_several_14 hF.symm hP hD hS
theorem cv_X8_several : qV yX8_several cX8_several 7 none 4 := ⟨kc_X8_several, kt_X8_several, ks_X8_several, kn_X8, by decide, by decide +kernel⟩
def f_X8_single (o_this : Int32 × Int32 × Int32 × Int32 × Bool × Bool × Int32 × Int32 × Int32 × Int32 × Bool × Bool × Bool × Int32 × Int32 × Int32 × Int32 × Int32 × Int32 × Int32 × Int32 × Int32 × Int32 × Int32 × Int32) (r_this_bytes : Nat → Int32) (p1 : Int32) (p2 : Int32) (p3 : Int32) : (Int32 × Int32 × Int32 × Int32 × Bool × Bool × Int32 × Int32 × Int32 × Int32 × Bool × Bool × Bool × Int32 × Int32 × Int32 × Int32 × Int32 × Int32 × Int32 × Int32 × Int32 × Int32 × Int32 × Int32) × (Nat → Int32) := (if p1 = (145 : Int32) then (if ((r_this_bytes p3.toNatClampNeg) &&& p2) = 0 then ((o_this.1, o_this.2.1, 0, o_this.2.2.2.1, o_this.2.2.2.2.1, o_this.2.2.2.2.2.1, o_this.2.2.2.2.2.2.1, o_this.2.2.2.2.2.2.2.1, o_this.2.2.2.2.2.2.2.2.1, o_this.2.2.2.2.2.2.2.2.2.1, o_this.2.2.2.2.2.2.2.2.2.2.1, o_this.2.2.2.2.2.2.2.2.2.2.2.1, o_this.2.2.2.2.2.2.2.2.2.2.2.2.1, o_this.2.2.2.2.2.2.2.2.2.2.2.2.2.1, o_this.2.2.2.2.2.2.2.2.2.2.2.2.2.2.1, o_this.2.2.2.2.2.2.2.2.2.2.2.2.2.2.2.1, o_this.2.2.2.2.2.2.2.2.2.2.2.2.2.2.2.2.1, o_this.2.2.2.2.2.2.2.2.2.2.2.2.2.2.2.2.2.1, o_this.2.2.2.2.2.2.2.2.2.2.2.2.2.2.2.2.2.2.1, o_this.2.2.2.2.2.2.2.2.2.2.2.2.2.2.2.2.2.2.2.1, o_this.2.2.2.2.2.2.2.2.2.2.2.2.2.2.2.2.2.2.2.2.1, o_this.2.2.2.2.2.2.2.2.2.2.2.2.2.2.2.2.2.2.2.2.2.1, o_this.2.2.2.2.2.2.2.2.2.2.2.2.2.2.2.2.2.2.2.2.2.2.1, o_this.2.2.2.2.2.2.2.2.2.2.2.2.2.2.2.2.2.2.2.2.2.2.2.1, o_this.2.2.2.2.2.2.2.2.2.2.2.2.2.2.2.2.2.2.2.2.2.2.2.2), r_this_bytes) else (if ((r_this_bytes p3.toNatClampNeg) &&& p2) = p2 then ((o_this.1, o_this.2.1, 3, o_this.2.2.2.1, o_this.2.2.2.2.1, o_this.2.2.2.2.2.1, o_this.2.2.2.2.2.2.1, o_this.2.2.2.2.2.2.2.1, o_this.2.2.2.2.2.2.2.2.1, o_this.2.2.2.2.2.2.2.2.2.1, o_this.2.2.2.2.2.2.2.2.2.2.1, o_this.2.2.2.2.2.2.2.2.2.2.2.1, o_this.2.2.2.2.2.2.2.2.2.2.2.2.1, o_this.2.2.2.2.2.2.2.2.2.2.2.2.2.1, o_this.2.2.2.2.2.2.2.2.2.2.2.2.2.2.1, o_this.2.2.2.2.2.2.2.2.2.2.2.2.2.2.2.1, o_this.2.2.2.2.2.2.2.2.2.2.2.2.2.2.2.2.1, o_this.2.2.2.2.2.2.2.2.2.2.2.2.2.2.2.2.2.1, o_this.2.2.2.2.2.2.2.2.2.2.2.2.2.2.2.2.2.2.1, o_this.2.2.2.2.2.2.2.2.2.2.2.2.2.2.2.2.2.2.2.1, o_this.2.2.2.2.2.2.2.2.2.2.2.2.2.2.2.2.2.2.2.2.1, o_this.2.2.2.2.2.2.2.2.2.2.2.2.2.2.2.2.2.2.2.2.2.1, o_this.2.2.2.2.2.2.2.2.2.2.2.2.2.2.2.2.2.2.2.2.2.2.1, o_this.2.2.2.2.2.2.2.2.2.2.2.2.2.2.2.2.2.2.2.2.2.2.2.1, o_this.2.2.2.2.2.2.2.2.2.2.2.2.2.2.2.2.2.2.2.2.2.2.2.2), r_this_bytes) else ((o_this.1, o_this.2.1, 1, o_this.2.2.2.1, o_this.2.2.2.2.1, o_this.2.2.2.2.2.1, o_this.2.2.2.2.2.2.1, o_this.2.2.2.2.2.2.2.1, o_this.2.2.2.2.2.2.2.2.1, o_this.2.2.2.2.2.2.2.2.2.1, o_this.2.2.2.2.2.2.2.2.2.2.1, o_this.2.2.2.2.2.2.2.2.2.2.2.1, o_this.2.2.2.2.2.2.2.2.2.2.2.2.1, o_this.2.2.2.2.2.2.2.2.2.2.2.2.2.1, o_this.2.2.2.2.2.2.2.2.2.2.2.2.2.2.1, o_this.2.2.2.2.2.2.2.2.2.2.2.2.2.2.2.1, o_this.2.2.2.2.2.2.2.2.2.2.2.2.2.2.2.2.1, o_this.2.2.2.2.2.2.2.2.2.2.2.2.2.2.2.2.2.1, o_this.2.2.2.2.2.2.2.2.2.2.2.2.2.2.2.2.2.2.1, o_this.2.2.2.2.2.2.2.2.2.2.2.2.2.2.2.2.2.2.2.1, o_this.2.2.2.2.2.2.2.2.2.2.2.2.2.2.2.2.2.2.2.2.1, o_this.2.2.2.2.2.2.2.2.2.2.2.2.2.2.2.2.2.2.2.2.2.1, o_this.2.2.2.2.2.2.2.2.2.2.2.2.2.2.2.2.2.2.2.2.2.2.1, o_this.2.2.2.2.2.2.2.2.2.2.2.2.2.2.2.2.2.2.2.2.2.2.2.1, o_this.2.2.2.2.2.2.2.2.2.2.2.2.2.2.2.2.2.2.2.2.2.2.2.2), r_this_bytes))) else (if p1 = (149 : Int32) then (q_let (f_X8_compared o_this (r_this_bytes p3.toNatClampNeg) p2) fun w_11 => (w_11, r_this_bytes)) else (if p1 = (146 : Int32) then (o_this, (upd r_this_bytes p3.toNatClampNeg p2)) else (if p1 = (148 : Int32) then (q_let (f_X8_logic o_this ((r_this_bytes p3.toNatClampNeg) &&& p2)) fun w_8 => (w_8.2, (upd r_this_bytes p3.toNatClampNeg w_8.1))) else (q_let (f_X8_logic o_this ((r_this_bytes p3.toNatClampNeg) ||| p2)) fun w_6 => (w_6.2, (upd r_this_bytes p3.toNatClampNeg w_6.1)))))))
def s_X8_single (o_this : Int32 × Int32 × Int32 × Int32 × Bool × Bool × Int32 × Int32 × Int32 × Int32 × Bool × Bool × Bool × Int32 × Int32 × Int32 × Int32 × Int32 × Int32 × Int32 × Int32 × Int32 × Int32 × Int32 × Int32) (r_this_bytes : Nat → Int32) (p1 : Int32) (p2 : Int32) (p3 : Int32) : Prop := (vp_in p3 2048 ∧ (if p1 = (145 : Int32) then True else (if p1 = (149 : Int32) then True else (if p1 = (146 : Int32) then vp_in p3 2048 else (if p1 = (148 : Int32) then (q_let (f_X8_logic o_this ((r_this_bytes p3.toNatClampNeg) &&& p2)) fun w_8 => vp_in p3 2048) else (q_let (f_X8_logic o_this ((r_this_bytes p3.toNatClampNeg) ||| p2)) fun w_6 => vp_in p3 2048))))))
set_option linter.all false in
set_option maxHeartbeats 4000000 in
set_option maxRecDepth 100000 in
theorem c_X8_single (l : Launch) (D : va_G) (a_this a_this_bytes a_this_keys a_this_reg a_this_card a_this_filled a_this_taken a_this_line a_this_one a_this_two : Nat) (k_this_bytes : ClassId) (o_this : Int32 × Int32 × Int32 × Int32 × Bool × Bool × Int32 × Int32 × Int32 × Int32 × Bool × Bool × Bool × Int32 × Int32 × Int32 × Int32 × Int32 × Int32 × Int32 × Int32 × Int32 × Int32 × Int32 × Int32) (r_this_bytes : Nat → Int32) (p1 : Int32) (p2 : Int32) (p3 : Int32) (hs : s_X8_single o_this r_this_bytes p1 p2 p3) : CtV l yX8_single cX8_single 5 none { frames := 1, cells := 0, slots := 0, locals := 22 } D [.ref a_this, .int p1, .int p2, .int p3] [(a_this, oX8 a_this_bytes a_this_keys a_this_reg a_this_card a_this_filled a_this_taken a_this_line a_this_one a_this_two o_this), (a_this_bytes, .inl (k_this_bytes, 2048, .inl r_this_bytes))] [(k_this_bytes, .int)] (fun (u : (Int32 × Int32 × Int32 × Int32 × Bool × Bool × Int32 × Int32 × Int32 × Int32 × Bool × Bool × Bool × Int32 × Int32 × Int32 × Int32 × Int32 × Int32 × Int32 × Int32 × Int32 × Int32 × Int32 × Int32) × (Nat → Int32)) => f_X8_single o_this r_this_bytes p1 p2 p3 = u) (fun u => [(a_this, oX8 a_this_bytes a_this_keys a_this_reg a_this_card a_this_filled a_this_taken a_this_line a_this_one a_this_two u.1), (a_this_bytes, .inl (k_this_bytes, 2048, .inl u.2))]) := by
  refine CtV.of (by decide) (Nat.le_of_ble_eq_true rfl) ?_
  intro p e s m below meth c A ls Q hE hP hD hS hl hQ
  obtain ⟨hx, hb, hml, hown, ht, hN, hK, hA⟩ := hE
  have hown : s.vm.findClass RX8 = some m.cls := hown
  have hl : lv_has ls 5 [(0, .ref a_this), (1, .int p1), (2, .int p2), (3, .int p3)] := hl
  obtain ⟨F, hF⟩ : ∃ F, f_X8_single o_this r_this_bytes p1 p2 p3 = F := ⟨_, rfl⟩
  rw [hF] at hQ
  unfold f_X8_single at hF
  unfold s_X8_single at hs
  refine lv_aload_n hx hb dX8_single_0 rfl (lv_at hl 0 rfl) ?_
  refine gf_X8_7 (v := .ref a_this_bytes) hx hb hown ht hK hP 0 rfl rfl dX8_single_1 ?_
  refine lv_iload_n hx hb dX8_single_4 rfl (lv_at hl 3 rfl) ?_
  obtain ⟨hi_1, hs⟩ := hs
  refine va_iald hx hb hK hP 1 0 rfl rfl hi_1 dX8_single_5 ?_
  refine lv_istore (lv' := [(4, .int (r_this_bytes p3.toNatClampNeg)), (0, .ref a_this), (1, .int p1), (2, .int p2), (3, .int p3)]) hx hb dX8_single_6 hl (by decide) rfl (fun ls hl => ?_)
  refine lv_iload_n hx hb dX8_single_8 rfl (lv_at hl 2 rfl) ?_
  refine lv_sipush (v := 145) hx hb dX8_single_9 (by decide) ?_
  refine lv_icmp_ne (tgt := 46) hx hb dX8_single_12 (by decide) (fun c_2 => ?_) (fun c_2 => ?_)
  · skip
    rw [if_neg c_2] at hF
    rw [if_neg c_2] at hs
    refine lv_iload_n hx hb dX8_single_46 rfl (lv_at hl 2 rfl) ?_
    refine lv_sipush (v := 149) hx hb dX8_single_47 (by decide) ?_
    refine lv_icmp_ne (tgt := 63) hx hb dX8_single_50 (by decide) (fun c_3 => ?_) (fun c_3 => ?_)
    · skip
      rw [if_neg c_3] at hF
      rw [if_neg c_3] at hs
      refine lv_aload_n hx hb dX8_single_63 rfl (lv_at hl 1 rfl) ?_
      refine gf_X8_7 (v := .ref a_this_bytes) hx hb hown ht hK hP 0 rfl rfl dX8_single_64 ?_
      refine lv_iload_n hx hb dX8_single_67 rfl (lv_at hl 4 rfl) ?_
      refine lv_iload_n hx hb dX8_single_68 rfl (lv_at hl 2 rfl) ?_
      refine lv_sipush (v := 146) hx hb dX8_single_69 (by decide) ?_
      refine lv_icmp_ne (tgt := 79) hx hb dX8_single_72 (by decide) (fun c_4 => ?_) (fun c_4 => ?_)
      · skip
        rw [if_neg c_4] at hF
        rw [if_neg c_4] at hs
        refine lv_aload_n hx hb dX8_single_79 rfl (lv_at hl 1 rfl) ?_
        refine lv_iload_n hx hb dX8_single_80 rfl (lv_at hl 2 rfl) ?_
        refine lv_sipush (v := 148) hx hb dX8_single_81 (by decide) ?_
        refine lv_icmp_ne (tgt := 94) hx hb dX8_single_84 (by decide) (fun c_5 => ?_) (fun c_5 => ?_)
        · skip
          rw [if_neg c_5] at hF
          rw [if_neg c_5] at hs
          refine lv_iload hx hb dX8_single_94 (lv_at hl 0 rfl) ?_
          refine lv_iload_n hx hb dX8_single_96 rfl (lv_at hl 3 rfl) ?_
          refine lv_ior hx hb dX8_single_97 ?_
          refine q_Vi (rest := [.int p3, .ref a_this_bytes]) (c_X8_logic l D a_this a_this_bytes a_this_keys a_this_reg a_this_card a_this_filled a_this_taken a_this_line a_this_one a_this_two o_this ((r_this_bytes p3.toNatClampNeg) ||| p2)) cv_X8_logic hx hb hml hown ht hN hK hA hP hD hS hl.1 (km_X8_128) ⟨Nat.le_of_ble_eq_true rfl, Nat.le_of_ble_eq_true rfl⟩ rfl rfl [0] (by decide) rfl [] rfl (fun _ => rfl) (ci := 8) rfl rfl rfl rfl rfl (Nat.le_of_ble_eq_true rfl) dX8_single_98 ⟨Nat.zero_le _, Nat.zero_le _⟩ (fun r w_6 H locs hw hP hD hS => ?_)
          obtain ⟨hw, hr⟩ := hw
          subst hr
          have hP : va_P D vwCl [(a_this, oX8 a_this_bytes a_this_keys a_this_reg a_this_card a_this_filled a_this_taken a_this_line a_this_one a_this_two w_6.2), (a_this_bytes, .inl (k_this_bytes, 2048, .inl r_this_bytes))] H := hP
          have hD : va_D A [(a_this, oX8 a_this_bytes a_this_keys a_this_reg a_this_card a_this_filled a_this_taken a_this_line a_this_one a_this_two w_6.2), (a_this_bytes, .inl (k_this_bytes, 2048, .inl r_this_bytes))] := hD
          rw [q_let_of hw] at hF
          rw [q_let_of hw] at hs
          have hi_7 := hs
          refine va_iast hx hb hK hP hD hS 1 0 rfl rfl hi_7 dX8_single_101 (fun H locs hP hD hS => ?_)
          have hP : va_P D vwCl [(a_this, oX8 a_this_bytes a_this_keys a_this_reg a_this_card a_this_filled a_this_taken a_this_line a_this_one a_this_two w_6.2), (a_this_bytes, .inl (k_this_bytes, 2048, .inl (upd r_this_bytes p3.toNatClampNeg w_6.1)))] H := hP
          have hD : va_D A [(a_this, oX8 a_this_bytes a_this_keys a_this_reg a_this_card a_this_filled a_this_taken a_this_line a_this_one a_this_two w_6.2), (a_this_bytes, .inl (k_this_bytes, 2048, .inl (upd r_this_bytes p3.toNatClampNeg w_6.1)))] := hD
          exact hQ (w_6.2, (upd r_this_bytes p3.toNatClampNeg w_6.1)) _ _ _ _ dX8_single_102 hF.symm hP hD hS
        · skip
          rw [if_pos c_5] at hF
          rw [if_pos c_5] at hs
          refine lv_iload hx hb dX8_single_87 (lv_at hl 0 rfl) ?_
          refine lv_iload_n hx hb dX8_single_89 rfl (lv_at hl 3 rfl) ?_
          refine lv_iand hx hb dX8_single_90 ?_
          refine lv_goto (tgt := 98) hx hb dX8_single_91 (by decide) ?_
          refine q_Vi (rest := [.int p3, .ref a_this_bytes]) (c_X8_logic l D a_this a_this_bytes a_this_keys a_this_reg a_this_card a_this_filled a_this_taken a_this_line a_this_one a_this_two o_this ((r_this_bytes p3.toNatClampNeg) &&& p2)) cv_X8_logic hx hb hml hown ht hN hK hA hP hD hS hl.1 (km_X8_128) ⟨Nat.le_of_ble_eq_true rfl, Nat.le_of_ble_eq_true rfl⟩ rfl rfl [0] (by decide) rfl [] rfl (fun _ => rfl) (ci := 8) rfl rfl rfl rfl rfl (Nat.le_of_ble_eq_true rfl) dX8_single_98 ⟨Nat.zero_le _, Nat.zero_le _⟩ (fun r w_8 H locs hw hP hD hS => ?_)
          obtain ⟨hw, hr⟩ := hw
          subst hr
          have hP : va_P D vwCl [(a_this, oX8 a_this_bytes a_this_keys a_this_reg a_this_card a_this_filled a_this_taken a_this_line a_this_one a_this_two w_8.2), (a_this_bytes, .inl (k_this_bytes, 2048, .inl r_this_bytes))] H := hP
          have hD : va_D A [(a_this, oX8 a_this_bytes a_this_keys a_this_reg a_this_card a_this_filled a_this_taken a_this_line a_this_one a_this_two w_8.2), (a_this_bytes, .inl (k_this_bytes, 2048, .inl r_this_bytes))] := hD
          rw [q_let_of hw] at hF
          rw [q_let_of hw] at hs
          have hi_9 := hs
          refine va_iast hx hb hK hP hD hS 1 0 rfl rfl hi_9 dX8_single_101 (fun H locs hP hD hS => ?_)
          have hP : va_P D vwCl [(a_this, oX8 a_this_bytes a_this_keys a_this_reg a_this_card a_this_filled a_this_taken a_this_line a_this_one a_this_two w_8.2), (a_this_bytes, .inl (k_this_bytes, 2048, .inl (upd r_this_bytes p3.toNatClampNeg w_8.1)))] H := hP
          have hD : va_D A [(a_this, oX8 a_this_bytes a_this_keys a_this_reg a_this_card a_this_filled a_this_taken a_this_line a_this_one a_this_two w_8.2), (a_this_bytes, .inl (k_this_bytes, 2048, .inl (upd r_this_bytes p3.toNatClampNeg w_8.1)))] := hD
          exact hQ (w_8.2, (upd r_this_bytes p3.toNatClampNeg w_8.1)) _ _ _ _ dX8_single_102 hF.symm hP hD hS
      · skip
        rw [if_pos c_4] at hF
        rw [if_pos c_4] at hs
        refine lv_iload_n hx hb dX8_single_75 rfl (lv_at hl 3 rfl) ?_
        refine lv_goto (tgt := 101) hx hb dX8_single_76 (by decide) ?_
        have hi_10 := hs
        refine va_iast hx hb hK hP hD hS 1 0 rfl rfl hi_10 dX8_single_101 (fun H locs hP hD hS => ?_)
        have hP : va_P D vwCl [(a_this, oX8 a_this_bytes a_this_keys a_this_reg a_this_card a_this_filled a_this_taken a_this_line a_this_one a_this_two o_this), (a_this_bytes, .inl (k_this_bytes, 2048, .inl (upd r_this_bytes p3.toNatClampNeg p2)))] H := hP
        have hD : va_D A [(a_this, oX8 a_this_bytes a_this_keys a_this_reg a_this_card a_this_filled a_this_taken a_this_line a_this_one a_this_two o_this), (a_this_bytes, .inl (k_this_bytes, 2048, .inl (upd r_this_bytes p3.toNatClampNeg p2)))] := hD
        exact hQ (o_this, (upd r_this_bytes p3.toNatClampNeg p2)) _ _ _ _ dX8_single_102 hF.symm hP hD hS
    · skip
      rw [if_pos c_3] at hF
      rw [if_pos c_3] at hs
      refine lv_aload_n hx hb dX8_single_53 rfl (lv_at hl 1 rfl) ?_
      refine lv_iload hx hb dX8_single_54 (lv_at hl 0 rfl) ?_
      refine lv_iload_n hx hb dX8_single_56 rfl (lv_at hl 3 rfl) ?_
      refine q_Vv (rest := []) (c_X8_compared l D a_this a_this_bytes a_this_keys a_this_reg a_this_card a_this_filled a_this_taken a_this_line a_this_one a_this_two o_this (r_this_bytes p3.toNatClampNeg) p2) cv_X8_compared hx hb hml hown ht hN hK hA hP hD hS hl.1 (km_X8_131) ⟨Nat.le_of_ble_eq_true rfl, Nat.le_of_ble_eq_true rfl⟩ rfl rfl [0] (by decide) rfl [] rfl (fun _ => rfl) (ci := 8) rfl rfl rfl rfl rfl (Nat.le_of_ble_eq_true rfl) dX8_single_57 ⟨Nat.zero_le _, Nat.zero_le _⟩ (fun w_11 H locs hw hP hD hS => ?_)
      have hP : va_P D vwCl [(a_this, oX8 a_this_bytes a_this_keys a_this_reg a_this_card a_this_filled a_this_taken a_this_line a_this_one a_this_two w_11), (a_this_bytes, .inl (k_this_bytes, 2048, .inl r_this_bytes))] H := hP
      have hD : va_D A [(a_this, oX8 a_this_bytes a_this_keys a_this_reg a_this_card a_this_filled a_this_taken a_this_line a_this_one a_this_two w_11), (a_this_bytes, .inl (k_this_bytes, 2048, .inl r_this_bytes))] := hD
      rw [q_let_of hw] at hF
      refine lv_goto (tgt := 102) hx hb dX8_single_60 (by decide) ?_
      exact hQ (w_11, r_this_bytes) _ _ _ _ dX8_single_102 hF.symm hP hD hS
  · skip
    rw [if_pos c_2] at hF
    rw [if_pos c_2] at hs
    refine lv_aload_n hx hb dX8_single_15 rfl (lv_at hl 1 rfl) ?_
    refine lv_iload hx hb dX8_single_16 (lv_at hl 0 rfl) ?_
    refine lv_iload_n hx hb dX8_single_18 rfl (lv_at hl 3 rfl) ?_
    refine lv_iand hx hb dX8_single_19 ?_
    refine lv_if_ne (tgt := 27) hx hb dX8_single_20 (by decide) (fun c_12 => ?_) (fun c_12 => ?_)
    · skip
      rw [if_neg c_12] at hF
      refine lv_iload hx hb dX8_single_27 (lv_at hl 0 rfl) ?_
      refine lv_iload_n hx hb dX8_single_29 rfl (lv_at hl 3 rfl) ?_
      refine lv_iand hx hb dX8_single_30 ?_
      refine lv_iload_n hx hb dX8_single_31 rfl (lv_at hl 3 rfl) ?_
      refine lv_icmp_ne (tgt := 39) hx hb dX8_single_32 (by decide) (fun c_13 => ?_) (fun c_13 => ?_)
      · skip
        rw [if_neg c_13] at hF
        refine lv_iconst (v := 1) hx hb dX8_single_39 (by decide) ?_
        refine pf_X8_52 (x := 1) hx hb hown ht hK hP hD hS 0 rfl (Nat.le_of_ble_eq_true rfl) dX8_single_40 (fun H locs hP hD hS => ?_)
        have hP : va_P D vwCl [(a_this, oX8 a_this_bytes a_this_keys a_this_reg a_this_card a_this_filled a_this_taken a_this_line a_this_one a_this_two (o_this.1, o_this.2.1, 1, o_this.2.2.2.1, o_this.2.2.2.2.1, o_this.2.2.2.2.2.1, o_this.2.2.2.2.2.2.1, o_this.2.2.2.2.2.2.2.1, o_this.2.2.2.2.2.2.2.2.1, o_this.2.2.2.2.2.2.2.2.2.1, o_this.2.2.2.2.2.2.2.2.2.2.1, o_this.2.2.2.2.2.2.2.2.2.2.2.1, o_this.2.2.2.2.2.2.2.2.2.2.2.2.1, o_this.2.2.2.2.2.2.2.2.2.2.2.2.2.1, o_this.2.2.2.2.2.2.2.2.2.2.2.2.2.2.1, o_this.2.2.2.2.2.2.2.2.2.2.2.2.2.2.2.1, o_this.2.2.2.2.2.2.2.2.2.2.2.2.2.2.2.2.1, o_this.2.2.2.2.2.2.2.2.2.2.2.2.2.2.2.2.2.1, o_this.2.2.2.2.2.2.2.2.2.2.2.2.2.2.2.2.2.2.1, o_this.2.2.2.2.2.2.2.2.2.2.2.2.2.2.2.2.2.2.2.1, o_this.2.2.2.2.2.2.2.2.2.2.2.2.2.2.2.2.2.2.2.2.1, o_this.2.2.2.2.2.2.2.2.2.2.2.2.2.2.2.2.2.2.2.2.2.1, o_this.2.2.2.2.2.2.2.2.2.2.2.2.2.2.2.2.2.2.2.2.2.2.1, o_this.2.2.2.2.2.2.2.2.2.2.2.2.2.2.2.2.2.2.2.2.2.2.2.1, o_this.2.2.2.2.2.2.2.2.2.2.2.2.2.2.2.2.2.2.2.2.2.2.2.2)), (a_this_bytes, .inl (k_this_bytes, 2048, .inl r_this_bytes))] H := hP
        have hD : va_D A [(a_this, oX8 a_this_bytes a_this_keys a_this_reg a_this_card a_this_filled a_this_taken a_this_line a_this_one a_this_two (o_this.1, o_this.2.1, 1, o_this.2.2.2.1, o_this.2.2.2.2.1, o_this.2.2.2.2.2.1, o_this.2.2.2.2.2.2.1, o_this.2.2.2.2.2.2.2.1, o_this.2.2.2.2.2.2.2.2.1, o_this.2.2.2.2.2.2.2.2.2.1, o_this.2.2.2.2.2.2.2.2.2.2.1, o_this.2.2.2.2.2.2.2.2.2.2.2.1, o_this.2.2.2.2.2.2.2.2.2.2.2.2.1, o_this.2.2.2.2.2.2.2.2.2.2.2.2.2.1, o_this.2.2.2.2.2.2.2.2.2.2.2.2.2.2.1, o_this.2.2.2.2.2.2.2.2.2.2.2.2.2.2.2.1, o_this.2.2.2.2.2.2.2.2.2.2.2.2.2.2.2.2.1, o_this.2.2.2.2.2.2.2.2.2.2.2.2.2.2.2.2.2.1, o_this.2.2.2.2.2.2.2.2.2.2.2.2.2.2.2.2.2.2.1, o_this.2.2.2.2.2.2.2.2.2.2.2.2.2.2.2.2.2.2.2.1, o_this.2.2.2.2.2.2.2.2.2.2.2.2.2.2.2.2.2.2.2.2.1, o_this.2.2.2.2.2.2.2.2.2.2.2.2.2.2.2.2.2.2.2.2.2.1, o_this.2.2.2.2.2.2.2.2.2.2.2.2.2.2.2.2.2.2.2.2.2.2.1, o_this.2.2.2.2.2.2.2.2.2.2.2.2.2.2.2.2.2.2.2.2.2.2.2.1, o_this.2.2.2.2.2.2.2.2.2.2.2.2.2.2.2.2.2.2.2.2.2.2.2.2)), (a_this_bytes, .inl (k_this_bytes, 2048, .inl r_this_bytes))] := hD
        refine lv_goto (tgt := 102) hx hb dX8_single_43 (by decide) ?_
        exact hQ ((o_this.1, o_this.2.1, 1, o_this.2.2.2.1, o_this.2.2.2.2.1, o_this.2.2.2.2.2.1, o_this.2.2.2.2.2.2.1, o_this.2.2.2.2.2.2.2.1, o_this.2.2.2.2.2.2.2.2.1, o_this.2.2.2.2.2.2.2.2.2.1, o_this.2.2.2.2.2.2.2.2.2.2.1, o_this.2.2.2.2.2.2.2.2.2.2.2.1, o_this.2.2.2.2.2.2.2.2.2.2.2.2.1, o_this.2.2.2.2.2.2.2.2.2.2.2.2.2.1, o_this.2.2.2.2.2.2.2.2.2.2.2.2.2.2.1, o_this.2.2.2.2.2.2.2.2.2.2.2.2.2.2.2.1, o_this.2.2.2.2.2.2.2.2.2.2.2.2.2.2.2.2.1, o_this.2.2.2.2.2.2.2.2.2.2.2.2.2.2.2.2.2.1, o_this.2.2.2.2.2.2.2.2.2.2.2.2.2.2.2.2.2.2.1, o_this.2.2.2.2.2.2.2.2.2.2.2.2.2.2.2.2.2.2.2.1, o_this.2.2.2.2.2.2.2.2.2.2.2.2.2.2.2.2.2.2.2.2.1, o_this.2.2.2.2.2.2.2.2.2.2.2.2.2.2.2.2.2.2.2.2.2.1, o_this.2.2.2.2.2.2.2.2.2.2.2.2.2.2.2.2.2.2.2.2.2.2.1, o_this.2.2.2.2.2.2.2.2.2.2.2.2.2.2.2.2.2.2.2.2.2.2.2.1, o_this.2.2.2.2.2.2.2.2.2.2.2.2.2.2.2.2.2.2.2.2.2.2.2.2), r_this_bytes) _ _ _ _ dX8_single_102 hF.symm hP hD hS
      · skip
        rw [if_pos c_13] at hF
        refine lv_iconst (v := 3) hx hb dX8_single_35 (by decide) ?_
        refine lv_goto (tgt := 40) hx hb dX8_single_36 (by decide) ?_
        refine pf_X8_52 (x := 3) hx hb hown ht hK hP hD hS 0 rfl (Nat.le_of_ble_eq_true rfl) dX8_single_40 (fun H locs hP hD hS => ?_)
        have hP : va_P D vwCl [(a_this, oX8 a_this_bytes a_this_keys a_this_reg a_this_card a_this_filled a_this_taken a_this_line a_this_one a_this_two (o_this.1, o_this.2.1, 3, o_this.2.2.2.1, o_this.2.2.2.2.1, o_this.2.2.2.2.2.1, o_this.2.2.2.2.2.2.1, o_this.2.2.2.2.2.2.2.1, o_this.2.2.2.2.2.2.2.2.1, o_this.2.2.2.2.2.2.2.2.2.1, o_this.2.2.2.2.2.2.2.2.2.2.1, o_this.2.2.2.2.2.2.2.2.2.2.2.1, o_this.2.2.2.2.2.2.2.2.2.2.2.2.1, o_this.2.2.2.2.2.2.2.2.2.2.2.2.2.1, o_this.2.2.2.2.2.2.2.2.2.2.2.2.2.2.1, o_this.2.2.2.2.2.2.2.2.2.2.2.2.2.2.2.1, o_this.2.2.2.2.2.2.2.2.2.2.2.2.2.2.2.2.1, o_this.2.2.2.2.2.2.2.2.2.2.2.2.2.2.2.2.2.1, o_this.2.2.2.2.2.2.2.2.2.2.2.2.2.2.2.2.2.2.1, o_this.2.2.2.2.2.2.2.2.2.2.2.2.2.2.2.2.2.2.2.1, o_this.2.2.2.2.2.2.2.2.2.2.2.2.2.2.2.2.2.2.2.2.1, o_this.2.2.2.2.2.2.2.2.2.2.2.2.2.2.2.2.2.2.2.2.2.1, o_this.2.2.2.2.2.2.2.2.2.2.2.2.2.2.2.2.2.2.2.2.2.2.1, o_this.2.2.2.2.2.2.2.2.2.2.2.2.2.2.2.2.2.2.2.2.2.2.2.1, o_this.2.2.2.2.2.2.2.2.2.2.2.2.2.2.2.2.2.2.2.2.2.2.2.2)), (a_this_bytes, .inl (k_this_bytes, 2048, .inl r_this_bytes))] H := hP
        have hD : va_D A [(a_this, oX8 a_this_bytes a_this_keys a_this_reg a_this_card a_this_filled a_this_taken a_this_line a_this_one a_this_two (o_this.1, o_this.2.1, 3, o_this.2.2.2.1, o_this.2.2.2.2.1, o_this.2.2.2.2.2.1, o_this.2.2.2.2.2.2.1, o_this.2.2.2.2.2.2.2.1, o_this.2.2.2.2.2.2.2.2.1, o_this.2.2.2.2.2.2.2.2.2.1, o_this.2.2.2.2.2.2.2.2.2.2.1, o_this.2.2.2.2.2.2.2.2.2.2.2.1, o_this.2.2.2.2.2.2.2.2.2.2.2.2.1, o_this.2.2.2.2.2.2.2.2.2.2.2.2.2.1, o_this.2.2.2.2.2.2.2.2.2.2.2.2.2.2.1, o_this.2.2.2.2.2.2.2.2.2.2.2.2.2.2.2.1, o_this.2.2.2.2.2.2.2.2.2.2.2.2.2.2.2.2.1, o_this.2.2.2.2.2.2.2.2.2.2.2.2.2.2.2.2.2.1, o_this.2.2.2.2.2.2.2.2.2.2.2.2.2.2.2.2.2.2.1, o_this.2.2.2.2.2.2.2.2.2.2.2.2.2.2.2.2.2.2.2.1, o_this.2.2.2.2.2.2.2.2.2.2.2.2.2.2.2.2.2.2.2.2.1, o_this.2.2.2.2.2.2.2.2.2.2.2.2.2.2.2.2.2.2.2.2.2.1, o_this.2.2.2.2.2.2.2.2.2.2.2.2.2.2.2.2.2.2.2.2.2.2.1, o_this.2.2.2.2.2.2.2.2.2.2.2.2.2.2.2.2.2.2.2.2.2.2.2.1, o_this.2.2.2.2.2.2.2.2.2.2.2.2.2.2.2.2.2.2.2.2.2.2.2.2)), (a_this_bytes, .inl (k_this_bytes, 2048, .inl r_this_bytes))] := hD
        refine lv_goto (tgt := 102) hx hb dX8_single_43 (by decide) ?_
        exact hQ ((o_this.1, o_this.2.1, 3, o_this.2.2.2.1, o_this.2.2.2.2.1, o_this.2.2.2.2.2.1, o_this.2.2.2.2.2.2.1, o_this.2.2.2.2.2.2.2.1, o_this.2.2.2.2.2.2.2.2.1, o_this.2.2.2.2.2.2.2.2.2.1, o_this.2.2.2.2.2.2.2.2.2.2.1, o_this.2.2.2.2.2.2.2.2.2.2.2.1, o_this.2.2.2.2.2.2.2.2.2.2.2.2.1, o_this.2.2.2.2.2.2.2.2.2.2.2.2.2.1, o_this.2.2.2.2.2.2.2.2.2.2.2.2.2.2.1, o_this.2.2.2.2.2.2.2.2.2.2.2.2.2.2.2.1, o_this.2.2.2.2.2.2.2.2.2.2.2.2.2.2.2.2.1, o_this.2.2.2.2.2.2.2.2.2.2.2.2.2.2.2.2.2.1, o_this.2.2.2.2.2.2.2.2.2.2.2.2.2.2.2.2.2.2.1, o_this.2.2.2.2.2.2.2.2.2.2.2.2.2.2.2.2.2.2.2.1, o_this.2.2.2.2.2.2.2.2.2.2.2.2.2.2.2.2.2.2.2.2.1, o_this.2.2.2.2.2.2.2.2.2.2.2.2.2.2.2.2.2.2.2.2.2.1, o_this.2.2.2.2.2.2.2.2.2.2.2.2.2.2.2.2.2.2.2.2.2.2.1, o_this.2.2.2.2.2.2.2.2.2.2.2.2.2.2.2.2.2.2.2.2.2.2.2.1, o_this.2.2.2.2.2.2.2.2.2.2.2.2.2.2.2.2.2.2.2.2.2.2.2.2), r_this_bytes) _ _ _ _ dX8_single_102 hF.symm hP hD hS
    · skip
      rw [if_pos c_12] at hF
      refine lv_iconst (v := 0) hx hb dX8_single_23 (by decide) ?_
      refine lv_goto (tgt := 40) hx hb dX8_single_24 (by decide) ?_
      refine pf_X8_52 (x := 0) hx hb hown ht hK hP hD hS 0 rfl (Nat.le_of_ble_eq_true rfl) dX8_single_40 (fun H locs hP hD hS => ?_)
      have hP : va_P D vwCl [(a_this, oX8 a_this_bytes a_this_keys a_this_reg a_this_card a_this_filled a_this_taken a_this_line a_this_one a_this_two (o_this.1, o_this.2.1, 0, o_this.2.2.2.1, o_this.2.2.2.2.1, o_this.2.2.2.2.2.1, o_this.2.2.2.2.2.2.1, o_this.2.2.2.2.2.2.2.1, o_this.2.2.2.2.2.2.2.2.1, o_this.2.2.2.2.2.2.2.2.2.1, o_this.2.2.2.2.2.2.2.2.2.2.1, o_this.2.2.2.2.2.2.2.2.2.2.2.1, o_this.2.2.2.2.2.2.2.2.2.2.2.2.1, o_this.2.2.2.2.2.2.2.2.2.2.2.2.2.1, o_this.2.2.2.2.2.2.2.2.2.2.2.2.2.2.1, o_this.2.2.2.2.2.2.2.2.2.2.2.2.2.2.2.1, o_this.2.2.2.2.2.2.2.2.2.2.2.2.2.2.2.2.1, o_this.2.2.2.2.2.2.2.2.2.2.2.2.2.2.2.2.2.1, o_this.2.2.2.2.2.2.2.2.2.2.2.2.2.2.2.2.2.2.1, o_this.2.2.2.2.2.2.2.2.2.2.2.2.2.2.2.2.2.2.2.1, o_this.2.2.2.2.2.2.2.2.2.2.2.2.2.2.2.2.2.2.2.2.1, o_this.2.2.2.2.2.2.2.2.2.2.2.2.2.2.2.2.2.2.2.2.2.1, o_this.2.2.2.2.2.2.2.2.2.2.2.2.2.2.2.2.2.2.2.2.2.2.1, o_this.2.2.2.2.2.2.2.2.2.2.2.2.2.2.2.2.2.2.2.2.2.2.2.1, o_this.2.2.2.2.2.2.2.2.2.2.2.2.2.2.2.2.2.2.2.2.2.2.2.2)), (a_this_bytes, .inl (k_this_bytes, 2048, .inl r_this_bytes))] H := hP
      have hD : va_D A [(a_this, oX8 a_this_bytes a_this_keys a_this_reg a_this_card a_this_filled a_this_taken a_this_line a_this_one a_this_two (o_this.1, o_this.2.1, 0, o_this.2.2.2.1, o_this.2.2.2.2.1, o_this.2.2.2.2.2.1, o_this.2.2.2.2.2.2.1, o_this.2.2.2.2.2.2.2.1, o_this.2.2.2.2.2.2.2.2.1, o_this.2.2.2.2.2.2.2.2.2.1, o_this.2.2.2.2.2.2.2.2.2.2.1, o_this.2.2.2.2.2.2.2.2.2.2.2.1, o_this.2.2.2.2.2.2.2.2.2.2.2.2.1, o_this.2.2.2.2.2.2.2.2.2.2.2.2.2.1, o_this.2.2.2.2.2.2.2.2.2.2.2.2.2.2.1, o_this.2.2.2.2.2.2.2.2.2.2.2.2.2.2.2.1, o_this.2.2.2.2.2.2.2.2.2.2.2.2.2.2.2.2.1, o_this.2.2.2.2.2.2.2.2.2.2.2.2.2.2.2.2.2.1, o_this.2.2.2.2.2.2.2.2.2.2.2.2.2.2.2.2.2.2.1, o_this.2.2.2.2.2.2.2.2.2.2.2.2.2.2.2.2.2.2.2.1, o_this.2.2.2.2.2.2.2.2.2.2.2.2.2.2.2.2.2.2.2.2.1, o_this.2.2.2.2.2.2.2.2.2.2.2.2.2.2.2.2.2.2.2.2.2.1, o_this.2.2.2.2.2.2.2.2.2.2.2.2.2.2.2.2.2.2.2.2.2.2.1, o_this.2.2.2.2.2.2.2.2.2.2.2.2.2.2.2.2.2.2.2.2.2.2.2.1, o_this.2.2.2.2.2.2.2.2.2.2.2.2.2.2.2.2.2.2.2.2.2.2.2.2)), (a_this_bytes, .inl (k_this_bytes, 2048, .inl r_this_bytes))] := hD
      refine lv_goto (tgt := 102) hx hb dX8_single_43 (by decide) ?_
      exact hQ ((o_this.1, o_this.2.1, 0, o_this.2.2.2.1, o_this.2.2.2.2.1, o_this.2.2.2.2.2.1, o_this.2.2.2.2.2.2.1, o_this.2.2.2.2.2.2.2.1, o_this.2.2.2.2.2.2.2.2.1, o_this.2.2.2.2.2.2.2.2.2.1, o_this.2.2.2.2.2.2.2.2.2.2.1, o_this.2.2.2.2.2.2.2.2.2.2.2.1, o_this.2.2.2.2.2.2.2.2.2.2.2.2.1, o_this.2.2.2.2.2.2.2.2.2.2.2.2.2.1, o_this.2.2.2.2.2.2.2.2.2.2.2.2.2.2.1, o_this.2.2.2.2.2.2.2.2.2.2.2.2.2.2.2.1, o_this.2.2.2.2.2.2.2.2.2.2.2.2.2.2.2.2.1, o_this.2.2.2.2.2.2.2.2.2.2.2.2.2.2.2.2.2.1, o_this.2.2.2.2.2.2.2.2.2.2.2.2.2.2.2.2.2.2.1, o_this.2.2.2.2.2.2.2.2.2.2.2.2.2.2.2.2.2.2.2.1, o_this.2.2.2.2.2.2.2.2.2.2.2.2.2.2.2.2.2.2.2.2.1, o_this.2.2.2.2.2.2.2.2.2.2.2.2.2.2.2.2.2.2.2.2.2.1, o_this.2.2.2.2.2.2.2.2.2.2.2.2.2.2.2.2.2.2.2.2.2.2.1, o_this.2.2.2.2.2.2.2.2.2.2.2.2.2.2.2.2.2.2.2.2.2.2.2.1, o_this.2.2.2.2.2.2.2.2.2.2.2.2.2.2.2.2.2.2.2.2.2.2.2.2), r_this_bytes) _ _ _ _ dX8_single_102 hF.symm hP hD hS
theorem cv_X8_single : qV yX8_single cX8_single 5 none 3 := ⟨kc_X8_single, kt_X8_single, ks_X8_single, kn_X8, by decide, by decide +kernel⟩
def f_X8_begin (o_this : Int32 × Int32 × Int32 × Int32 × Bool × Bool × Int32 × Int32 × Int32 × Int32 × Bool × Bool × Bool × Int32 × Int32 × Int32 × Int32 × Int32 × Int32 × Int32 × Int32 × Int32 × Int32 × Int32 × Int32) (r_this_bytes : Nat → Int32) (p1 : Int32) : Int32 × Int32 × Int32 × Int32 × Bool × Bool × Int32 × Int32 × Int32 × Int32 × Bool × Bool × Bool × Int32 × Int32 × Int32 × Int32 × Int32 × Int32 × Int32 × Int32 × Int32 × Int32 × Int32 × Int32 := (if p1 < (1 : Int32) then (o_this.1, o_this.2.1, 3, o_this.2.2.2.1, o_this.2.2.2.2.1, o_this.2.2.2.2.2.1, o_this.2.2.2.2.2.2.1, o_this.2.2.2.2.2.2.2.1, o_this.2.2.2.2.2.2.2.2.1, o_this.2.2.2.2.2.2.2.2.2.1, o_this.2.2.2.2.2.2.2.2.2.2.1, o_this.2.2.2.2.2.2.2.2.2.2.2.1, o_this.2.2.2.2.2.2.2.2.2.2.2.2.1, o_this.2.2.2.2.2.2.2.2.2.2.2.2.2.1, o_this.2.2.2.2.2.2.2.2.2.2.2.2.2.2.1, o_this.2.2.2.2.2.2.2.2.2.2.2.2.2.2.2.1, o_this.2.2.2.2.2.2.2.2.2.2.2.2.2.2.2.2.1, o_this.2.2.2.2.2.2.2.2.2.2.2.2.2.2.2.2.2.1, o_this.2.2.2.2.2.2.2.2.2.2.2.2.2.2.2.2.2.2.1, o_this.2.2.2.2.2.2.2.2.2.2.2.2.2.2.2.2.2.2.2.1, o_this.2.2.2.2.2.2.2.2.2.2.2.2.2.2.2.2.2.2.2.2.1, o_this.2.2.2.2.2.2.2.2.2.2.2.2.2.2.2.2.2.2.2.2.2.1, o_this.2.2.2.2.2.2.2.2.2.2.2.2.2.2.2.2.2.2.2.2.2.2.1, o_this.2.2.2.2.2.2.2.2.2.2.2.2.2.2.2.2.2.2.2.2.2.2.2.1, o_this.2.2.2.2.2.2.2.2.2.2.2.2.2.2.2.2.2.2.2.2.2.2.2.2) else (if p1 ≤ (2 : Int32) then (if o_this.2.2.2.2.2.2.2.2.2.2.1 = true then (o_this.1, o_this.2.1, 2, o_this.2.2.2.1, o_this.2.2.2.2.1, o_this.2.2.2.2.2.1, o_this.2.2.2.2.2.2.1, o_this.2.2.2.2.2.2.2.1, o_this.2.2.2.2.2.2.2.2.1, o_this.2.2.2.2.2.2.2.2.2.1, o_this.2.2.2.2.2.2.2.2.2.2.1, o_this.2.2.2.2.2.2.2.2.2.2.2.1, o_this.2.2.2.2.2.2.2.2.2.2.2.2.1, o_this.2.2.2.2.2.2.2.2.2.2.2.2.2.1, o_this.2.2.2.2.2.2.2.2.2.2.2.2.2.2.1, o_this.2.2.2.2.2.2.2.2.2.2.2.2.2.2.2.1, o_this.2.2.2.2.2.2.2.2.2.2.2.2.2.2.2.2.1, o_this.2.2.2.2.2.2.2.2.2.2.2.2.2.2.2.2.2.1, o_this.2.2.2.2.2.2.2.2.2.2.2.2.2.2.2.2.2.2.1, o_this.2.2.2.2.2.2.2.2.2.2.2.2.2.2.2.2.2.2.2.1, o_this.2.2.2.2.2.2.2.2.2.2.2.2.2.2.2.2.2.2.2.2.1, o_this.2.2.2.2.2.2.2.2.2.2.2.2.2.2.2.2.2.2.2.2.2.1, o_this.2.2.2.2.2.2.2.2.2.2.2.2.2.2.2.2.2.2.2.2.2.2.1, o_this.2.2.2.2.2.2.2.2.2.2.2.2.2.2.2.2.2.2.2.2.2.2.2.1, o_this.2.2.2.2.2.2.2.2.2.2.2.2.2.2.2.2.2.2.2.2.2.2.2.2) else (if o_this.2.2.2.2.2.1 = true then (o_this.1, o_this.2.1, 2, o_this.2.2.2.1, o_this.2.2.2.2.1, o_this.2.2.2.2.2.1, o_this.2.2.2.2.2.2.1, o_this.2.2.2.2.2.2.2.1, o_this.2.2.2.2.2.2.2.2.1, o_this.2.2.2.2.2.2.2.2.2.1, o_this.2.2.2.2.2.2.2.2.2.2.1, o_this.2.2.2.2.2.2.2.2.2.2.2.1, o_this.2.2.2.2.2.2.2.2.2.2.2.2.1, o_this.2.2.2.2.2.2.2.2.2.2.2.2.2.1, o_this.2.2.2.2.2.2.2.2.2.2.2.2.2.2.1, o_this.2.2.2.2.2.2.2.2.2.2.2.2.2.2.2.1, o_this.2.2.2.2.2.2.2.2.2.2.2.2.2.2.2.2.1, o_this.2.2.2.2.2.2.2.2.2.2.2.2.2.2.2.2.2.1, o_this.2.2.2.2.2.2.2.2.2.2.2.2.2.2.2.2.2.2.1, o_this.2.2.2.2.2.2.2.2.2.2.2.2.2.2.2.2.2.2.2.1, o_this.2.2.2.2.2.2.2.2.2.2.2.2.2.2.2.2.2.2.2.2.1, o_this.2.2.2.2.2.2.2.2.2.2.2.2.2.2.2.2.2.2.2.2.2.1, o_this.2.2.2.2.2.2.2.2.2.2.2.2.2.2.2.2.2.2.2.2.2.2.1, o_this.2.2.2.2.2.2.2.2.2.2.2.2.2.2.2.2.2.2.2.2.2.2.2.1, o_this.2.2.2.2.2.2.2.2.2.2.2.2.2.2.2.2.2.2.2.2.2.2.2.2) else (q_let ((r_this_bytes (72 : Int32).toNatClampNeg) / (16 : Int32)) fun y_8 => (q_let (f_X8_field r_this_bytes 73 3) fun y_11 => (o_this.1, o_this.2.1, 0, o_this.2.2.2.1, o_this.2.2.2.2.1, o_this.2.2.2.2.2.1, o_this.2.2.2.2.2.2.1, o_this.2.2.2.2.2.2.2.1, o_this.2.2.2.2.2.2.2.2.1, o_this.2.2.2.2.2.2.2.2.2.1, true, false, false, p1, y_8, y_11, 0, o_this.2.2.2.2.2.2.2.2.2.2.2.2.2.2.2.2.2.1, o_this.2.2.2.2.2.2.2.2.2.2.2.2.2.2.2.2.2.2.1, o_this.2.2.2.2.2.2.2.2.2.2.2.2.2.2.2.2.2.2.2.1, o_this.2.2.2.2.2.2.2.2.2.2.2.2.2.2.2.2.2.2.2.2.1, o_this.2.2.2.2.2.2.2.2.2.2.2.2.2.2.2.2.2.2.2.2.2.1, o_this.2.2.2.2.2.2.2.2.2.2.2.2.2.2.2.2.2.2.2.2.2.2.1, o_this.2.2.2.2.2.2.2.2.2.2.2.2.2.2.2.2.2.2.2.2.2.2.2.1, o_this.2.2.2.2.2.2.2.2.2.2.2.2.2.2.2.2.2.2.2.2.2.2.2.2))))) else (o_this.1, o_this.2.1, 3, o_this.2.2.2.1, o_this.2.2.2.2.1, o_this.2.2.2.2.2.1, o_this.2.2.2.2.2.2.1, o_this.2.2.2.2.2.2.2.1, o_this.2.2.2.2.2.2.2.2.1, o_this.2.2.2.2.2.2.2.2.2.1, o_this.2.2.2.2.2.2.2.2.2.2.1, o_this.2.2.2.2.2.2.2.2.2.2.2.1, o_this.2.2.2.2.2.2.2.2.2.2.2.2.1, o_this.2.2.2.2.2.2.2.2.2.2.2.2.2.1, o_this.2.2.2.2.2.2.2.2.2.2.2.2.2.2.1, o_this.2.2.2.2.2.2.2.2.2.2.2.2.2.2.2.1, o_this.2.2.2.2.2.2.2.2.2.2.2.2.2.2.2.2.1, o_this.2.2.2.2.2.2.2.2.2.2.2.2.2.2.2.2.2.1, o_this.2.2.2.2.2.2.2.2.2.2.2.2.2.2.2.2.2.2.1, o_this.2.2.2.2.2.2.2.2.2.2.2.2.2.2.2.2.2.2.2.1, o_this.2.2.2.2.2.2.2.2.2.2.2.2.2.2.2.2.2.2.2.2.1, o_this.2.2.2.2.2.2.2.2.2.2.2.2.2.2.2.2.2.2.2.2.2.1, o_this.2.2.2.2.2.2.2.2.2.2.2.2.2.2.2.2.2.2.2.2.2.2.1, o_this.2.2.2.2.2.2.2.2.2.2.2.2.2.2.2.2.2.2.2.2.2.2.2.1, o_this.2.2.2.2.2.2.2.2.2.2.2.2.2.2.2.2.2.2.2.2.2.2.2.2)))
def s_X8_begin (o_this : Int32 × Int32 × Int32 × Int32 × Bool × Bool × Int32 × Int32 × Int32 × Int32 × Bool × Bool × Bool × Int32 × Int32 × Int32 × Int32 × Int32 × Int32 × Int32 × Int32 × Int32 × Int32 × Int32 × Int32) (r_this_bytes : Nat → Int32) (p1 : Int32) : Prop := (if p1 < (1 : Int32) then True else (if p1 ≤ (2 : Int32) then (if o_this.2.2.2.2.2.2.2.2.2.2.1 = true then True else (if o_this.2.2.2.2.2.1 = true then True else (q_let ((r_this_bytes (72 : Int32).toNatClampNeg) / (16 : Int32)) fun y_8 => s_X8_field r_this_bytes 73 3))) else True))
set_option linter.all false in
set_option maxHeartbeats 4000000 in
set_option maxRecDepth 100000 in
theorem c_X8_begin (l : Launch) (D : va_G) (a_this a_this_bytes a_this_keys a_this_reg a_this_card a_this_filled a_this_taken a_this_line a_this_one a_this_two : Nat) (k_this_bytes : ClassId) (o_this : Int32 × Int32 × Int32 × Int32 × Bool × Bool × Int32 × Int32 × Int32 × Int32 × Bool × Bool × Bool × Int32 × Int32 × Int32 × Int32 × Int32 × Int32 × Int32 × Int32 × Int32 × Int32 × Int32 × Int32) (r_this_bytes : Nat → Int32) (p1 : Int32) (hs : s_X8_begin o_this r_this_bytes p1) : CtV l yX8_begin cX8_begin 2 none { frames := 1, cells := 0, slots := 0, locals := 24 } D [.ref a_this, .int p1] [(a_this, oX8 a_this_bytes a_this_keys a_this_reg a_this_card a_this_filled a_this_taken a_this_line a_this_one a_this_two o_this), (a_this_bytes, .inl (k_this_bytes, 2048, .inl r_this_bytes))] [(k_this_bytes, .int)] (fun (u : Int32 × Int32 × Int32 × Int32 × Bool × Bool × Int32 × Int32 × Int32 × Int32 × Bool × Bool × Bool × Int32 × Int32 × Int32 × Int32 × Int32 × Int32 × Int32 × Int32 × Int32 × Int32 × Int32 × Int32) => f_X8_begin o_this r_this_bytes p1 = u) (fun u => [(a_this, oX8 a_this_bytes a_this_keys a_this_reg a_this_card a_this_filled a_this_taken a_this_line a_this_one a_this_two u), (a_this_bytes, .inl (k_this_bytes, 2048, .inl r_this_bytes))]) := by
  refine CtV.of (by decide) (Nat.le_of_ble_eq_true rfl) ?_
  intro p e s m below meth c A ls Q hE hP hD hS hl hQ
  obtain ⟨hx, hb, hml, hown, ht, hN, hK, hA⟩ := hE
  have hown : s.vm.findClass RX8 = some m.cls := hown
  have hl : lv_has ls 2 [(0, .ref a_this), (1, .int p1)] := hl
  obtain ⟨F, hF⟩ : ∃ F, f_X8_begin o_this r_this_bytes p1 = F := ⟨_, rfl⟩
  rw [hF] at hQ
  unfold f_X8_begin at hF
  unfold s_X8_begin at hs
  refine lv_aload_n hx hb dX8_begin_0 rfl (lv_at hl 0 rfl) ?_
  refine lv_iload_n hx hb dX8_begin_1 rfl (lv_at hl 1 rfl) ?_
  refine lv_iconst (v := 1) hx hb dX8_begin_2 (by decide) ?_
  refine lv_icmp_lt (tgt := 11) hx hb dX8_begin_3 (by decide) (fun c_1 => ?_) (fun c_1 => ?_)
  · skip
    rw [if_pos c_1] at hF
    rw [if_pos c_1] at hs
    refine lv_iconst (v := 3) hx hb dX8_begin_11 (by decide) ?_
    refine lv_goto (tgt := 34) hx hb dX8_begin_12 (by decide) ?_
    refine pf_X8_52 (x := 3) hx hb hown ht hK hP hD hS 0 rfl (Nat.le_of_ble_eq_true rfl) dX8_begin_34 (fun H locs hP hD hS => ?_)
    have hP : va_P D vwCl [(a_this, oX8 a_this_bytes a_this_keys a_this_reg a_this_card a_this_filled a_this_taken a_this_line a_this_one a_this_two (o_this.1, o_this.2.1, 3, o_this.2.2.2.1, o_this.2.2.2.2.1, o_this.2.2.2.2.2.1, o_this.2.2.2.2.2.2.1, o_this.2.2.2.2.2.2.2.1, o_this.2.2.2.2.2.2.2.2.1, o_this.2.2.2.2.2.2.2.2.2.1, o_this.2.2.2.2.2.2.2.2.2.2.1, o_this.2.2.2.2.2.2.2.2.2.2.2.1, o_this.2.2.2.2.2.2.2.2.2.2.2.2.1, o_this.2.2.2.2.2.2.2.2.2.2.2.2.2.1, o_this.2.2.2.2.2.2.2.2.2.2.2.2.2.2.1, o_this.2.2.2.2.2.2.2.2.2.2.2.2.2.2.2.1, o_this.2.2.2.2.2.2.2.2.2.2.2.2.2.2.2.2.1, o_this.2.2.2.2.2.2.2.2.2.2.2.2.2.2.2.2.2.1, o_this.2.2.2.2.2.2.2.2.2.2.2.2.2.2.2.2.2.2.1, o_this.2.2.2.2.2.2.2.2.2.2.2.2.2.2.2.2.2.2.2.1, o_this.2.2.2.2.2.2.2.2.2.2.2.2.2.2.2.2.2.2.2.2.1, o_this.2.2.2.2.2.2.2.2.2.2.2.2.2.2.2.2.2.2.2.2.2.1, o_this.2.2.2.2.2.2.2.2.2.2.2.2.2.2.2.2.2.2.2.2.2.2.1, o_this.2.2.2.2.2.2.2.2.2.2.2.2.2.2.2.2.2.2.2.2.2.2.2.1, o_this.2.2.2.2.2.2.2.2.2.2.2.2.2.2.2.2.2.2.2.2.2.2.2.2)), (a_this_bytes, .inl (k_this_bytes, 2048, .inl r_this_bytes))] H := hP
    have hD : va_D A [(a_this, oX8 a_this_bytes a_this_keys a_this_reg a_this_card a_this_filled a_this_taken a_this_line a_this_one a_this_two (o_this.1, o_this.2.1, 3, o_this.2.2.2.1, o_this.2.2.2.2.1, o_this.2.2.2.2.2.1, o_this.2.2.2.2.2.2.1, o_this.2.2.2.2.2.2.2.1, o_this.2.2.2.2.2.2.2.2.1, o_this.2.2.2.2.2.2.2.2.2.1, o_this.2.2.2.2.2.2.2.2.2.2.1, o_this.2.2.2.2.2.2.2.2.2.2.2.1, o_this.2.2.2.2.2.2.2.2.2.2.2.2.1, o_this.2.2.2.2.2.2.2.2.2.2.2.2.2.1, o_this.2.2.2.2.2.2.2.2.2.2.2.2.2.2.1, o_this.2.2.2.2.2.2.2.2.2.2.2.2.2.2.2.1, o_this.2.2.2.2.2.2.2.2.2.2.2.2.2.2.2.2.1, o_this.2.2.2.2.2.2.2.2.2.2.2.2.2.2.2.2.2.1, o_this.2.2.2.2.2.2.2.2.2.2.2.2.2.2.2.2.2.2.1, o_this.2.2.2.2.2.2.2.2.2.2.2.2.2.2.2.2.2.2.2.1, o_this.2.2.2.2.2.2.2.2.2.2.2.2.2.2.2.2.2.2.2.2.1, o_this.2.2.2.2.2.2.2.2.2.2.2.2.2.2.2.2.2.2.2.2.2.1, o_this.2.2.2.2.2.2.2.2.2.2.2.2.2.2.2.2.2.2.2.2.2.2.1, o_this.2.2.2.2.2.2.2.2.2.2.2.2.2.2.2.2.2.2.2.2.2.2.2.1, o_this.2.2.2.2.2.2.2.2.2.2.2.2.2.2.2.2.2.2.2.2.2.2.2.2)), (a_this_bytes, .inl (k_this_bytes, 2048, .inl r_this_bytes))] := hD
    refine lv_aload_n hx hb dX8_begin_37 rfl (lv_at hl 0 rfl) ?_
    refine gf_X8_52 (v := .int 3) hx hb hown ht hK hP 0 rfl rfl dX8_begin_38 ?_
    refine lv_if_le (tgt := 45) hx hb dX8_begin_41 (by decide) (fun c_2 => ?_) (fun c_2 => ?_)
    · exact absurd c_2 (by decide)
    · skip
      exact hQ (o_this.1, o_this.2.1, 3, o_this.2.2.2.1, o_this.2.2.2.2.1, o_this.2.2.2.2.2.1, o_this.2.2.2.2.2.2.1, o_this.2.2.2.2.2.2.2.1, o_this.2.2.2.2.2.2.2.2.1, o_this.2.2.2.2.2.2.2.2.2.1, o_this.2.2.2.2.2.2.2.2.2.2.1, o_this.2.2.2.2.2.2.2.2.2.2.2.1, o_this.2.2.2.2.2.2.2.2.2.2.2.2.1, o_this.2.2.2.2.2.2.2.2.2.2.2.2.2.1, o_this.2.2.2.2.2.2.2.2.2.2.2.2.2.2.1, o_this.2.2.2.2.2.2.2.2.2.2.2.2.2.2.2.1, o_this.2.2.2.2.2.2.2.2.2.2.2.2.2.2.2.2.1, o_this.2.2.2.2.2.2.2.2.2.2.2.2.2.2.2.2.2.1, o_this.2.2.2.2.2.2.2.2.2.2.2.2.2.2.2.2.2.2.1, o_this.2.2.2.2.2.2.2.2.2.2.2.2.2.2.2.2.2.2.2.1, o_this.2.2.2.2.2.2.2.2.2.2.2.2.2.2.2.2.2.2.2.2.1, o_this.2.2.2.2.2.2.2.2.2.2.2.2.2.2.2.2.2.2.2.2.2.1, o_this.2.2.2.2.2.2.2.2.2.2.2.2.2.2.2.2.2.2.2.2.2.2.1, o_this.2.2.2.2.2.2.2.2.2.2.2.2.2.2.2.2.2.2.2.2.2.2.2.1, o_this.2.2.2.2.2.2.2.2.2.2.2.2.2.2.2.2.2.2.2.2.2.2.2.2) _ _ _ _ dX8_begin_44 hF.symm hP hD hS
  · skip
    rw [if_neg c_1] at hF
    rw [if_neg c_1] at hs
    refine lv_iload_n hx hb dX8_begin_6 rfl (lv_at hl 1 rfl) ?_
    refine lv_iconst (v := 2) hx hb dX8_begin_7 (by decide) ?_
    refine lv_icmp_le (tgt := 15) hx hb dX8_begin_8 (by decide) (fun c_3 => ?_) (fun c_3 => ?_)
    · skip
      rw [if_pos c_3] at hF
      rw [if_pos c_3] at hs
      refine lv_aload_n hx hb dX8_begin_15 rfl (lv_at hl 0 rfl) ?_
      refine gf_X8_193 (v := .int (bI o_this.2.2.2.2.2.2.2.2.2.2.1)) hx hb hown ht hK hP 0 rfl rfl dX8_begin_16 ?_
      refine lv_if_ne (tgt := 29) hx hb dX8_begin_19 (by decide) (fun c_4 => ?_) (fun c_4 => ?_)
      · have c_4 := (bI_ne0 _).mp c_4
        rw [if_pos c_4] at hF
        rw [if_pos c_4] at hs
        refine lv_iconst (v := 2) hx hb dX8_begin_29 (by decide) ?_
        refine lv_goto (tgt := 34) hx hb dX8_begin_30 (by decide) ?_
        refine pf_X8_52 (x := 2) hx hb hown ht hK hP hD hS 0 rfl (Nat.le_of_ble_eq_true rfl) dX8_begin_34 (fun H locs hP hD hS => ?_)
        have hP : va_P D vwCl [(a_this, oX8 a_this_bytes a_this_keys a_this_reg a_this_card a_this_filled a_this_taken a_this_line a_this_one a_this_two (o_this.1, o_this.2.1, 2, o_this.2.2.2.1, o_this.2.2.2.2.1, o_this.2.2.2.2.2.1, o_this.2.2.2.2.2.2.1, o_this.2.2.2.2.2.2.2.1, o_this.2.2.2.2.2.2.2.2.1, o_this.2.2.2.2.2.2.2.2.2.1, o_this.2.2.2.2.2.2.2.2.2.2.1, o_this.2.2.2.2.2.2.2.2.2.2.2.1, o_this.2.2.2.2.2.2.2.2.2.2.2.2.1, o_this.2.2.2.2.2.2.2.2.2.2.2.2.2.1, o_this.2.2.2.2.2.2.2.2.2.2.2.2.2.2.1, o_this.2.2.2.2.2.2.2.2.2.2.2.2.2.2.2.1, o_this.2.2.2.2.2.2.2.2.2.2.2.2.2.2.2.2.1, o_this.2.2.2.2.2.2.2.2.2.2.2.2.2.2.2.2.2.1, o_this.2.2.2.2.2.2.2.2.2.2.2.2.2.2.2.2.2.2.1, o_this.2.2.2.2.2.2.2.2.2.2.2.2.2.2.2.2.2.2.2.1, o_this.2.2.2.2.2.2.2.2.2.2.2.2.2.2.2.2.2.2.2.2.1, o_this.2.2.2.2.2.2.2.2.2.2.2.2.2.2.2.2.2.2.2.2.2.1, o_this.2.2.2.2.2.2.2.2.2.2.2.2.2.2.2.2.2.2.2.2.2.2.1, o_this.2.2.2.2.2.2.2.2.2.2.2.2.2.2.2.2.2.2.2.2.2.2.2.1, o_this.2.2.2.2.2.2.2.2.2.2.2.2.2.2.2.2.2.2.2.2.2.2.2.2)), (a_this_bytes, .inl (k_this_bytes, 2048, .inl r_this_bytes))] H := hP
        have hD : va_D A [(a_this, oX8 a_this_bytes a_this_keys a_this_reg a_this_card a_this_filled a_this_taken a_this_line a_this_one a_this_two (o_this.1, o_this.2.1, 2, o_this.2.2.2.1, o_this.2.2.2.2.1, o_this.2.2.2.2.2.1, o_this.2.2.2.2.2.2.1, o_this.2.2.2.2.2.2.2.1, o_this.2.2.2.2.2.2.2.2.1, o_this.2.2.2.2.2.2.2.2.2.1, o_this.2.2.2.2.2.2.2.2.2.2.1, o_this.2.2.2.2.2.2.2.2.2.2.2.1, o_this.2.2.2.2.2.2.2.2.2.2.2.2.1, o_this.2.2.2.2.2.2.2.2.2.2.2.2.2.1, o_this.2.2.2.2.2.2.2.2.2.2.2.2.2.2.1, o_this.2.2.2.2.2.2.2.2.2.2.2.2.2.2.2.1, o_this.2.2.2.2.2.2.2.2.2.2.2.2.2.2.2.2.1, o_this.2.2.2.2.2.2.2.2.2.2.2.2.2.2.2.2.2.1, o_this.2.2.2.2.2.2.2.2.2.2.2.2.2.2.2.2.2.2.1, o_this.2.2.2.2.2.2.2.2.2.2.2.2.2.2.2.2.2.2.2.1, o_this.2.2.2.2.2.2.2.2.2.2.2.2.2.2.2.2.2.2.2.2.1, o_this.2.2.2.2.2.2.2.2.2.2.2.2.2.2.2.2.2.2.2.2.2.1, o_this.2.2.2.2.2.2.2.2.2.2.2.2.2.2.2.2.2.2.2.2.2.2.1, o_this.2.2.2.2.2.2.2.2.2.2.2.2.2.2.2.2.2.2.2.2.2.2.2.1, o_this.2.2.2.2.2.2.2.2.2.2.2.2.2.2.2.2.2.2.2.2.2.2.2.2)), (a_this_bytes, .inl (k_this_bytes, 2048, .inl r_this_bytes))] := hD
        refine lv_aload_n hx hb dX8_begin_37 rfl (lv_at hl 0 rfl) ?_
        refine gf_X8_52 (v := .int 2) hx hb hown ht hK hP 0 rfl rfl dX8_begin_38 ?_
        refine lv_if_le (tgt := 45) hx hb dX8_begin_41 (by decide) (fun c_5 => ?_) (fun c_5 => ?_)
        · exact absurd c_5 (by decide)
        · skip
          exact hQ (o_this.1, o_this.2.1, 2, o_this.2.2.2.1, o_this.2.2.2.2.1, o_this.2.2.2.2.2.1, o_this.2.2.2.2.2.2.1, o_this.2.2.2.2.2.2.2.1, o_this.2.2.2.2.2.2.2.2.1, o_this.2.2.2.2.2.2.2.2.2.1, o_this.2.2.2.2.2.2.2.2.2.2.1, o_this.2.2.2.2.2.2.2.2.2.2.2.1, o_this.2.2.2.2.2.2.2.2.2.2.2.2.1, o_this.2.2.2.2.2.2.2.2.2.2.2.2.2.1, o_this.2.2.2.2.2.2.2.2.2.2.2.2.2.2.1, o_this.2.2.2.2.2.2.2.2.2.2.2.2.2.2.2.1, o_this.2.2.2.2.2.2.2.2.2.2.2.2.2.2.2.2.1, o_this.2.2.2.2.2.2.2.2.2.2.2.2.2.2.2.2.2.1, o_this.2.2.2.2.2.2.2.2.2.2.2.2.2.2.2.2.2.2.1, o_this.2.2.2.2.2.2.2.2.2.2.2.2.2.2.2.2.2.2.2.1, o_this.2.2.2.2.2.2.2.2.2.2.2.2.2.2.2.2.2.2.2.2.1, o_this.2.2.2.2.2.2.2.2.2.2.2.2.2.2.2.2.2.2.2.2.2.1, o_this.2.2.2.2.2.2.2.2.2.2.2.2.2.2.2.2.2.2.2.2.2.2.1, o_this.2.2.2.2.2.2.2.2.2.2.2.2.2.2.2.2.2.2.2.2.2.2.2.1, o_this.2.2.2.2.2.2.2.2.2.2.2.2.2.2.2.2.2.2.2.2.2.2.2.2) _ _ _ _ dX8_begin_44 hF.symm hP hD hS
      · have c_4 : ¬ o_this.2.2.2.2.2.2.2.2.2.2.1 = true := by rw [(bI_eq0 _).mp c_4]; decide
        rw [if_neg c_4] at hF
        rw [if_neg c_4] at hs
        refine lv_aload_n hx hb dX8_begin_22 rfl (lv_at hl 0 rfl) ?_
        refine gf_X8_80 (v := .int (bI o_this.2.2.2.2.2.1)) hx hb hown ht hK hP 0 rfl rfl dX8_begin_23 ?_
        refine lv_if_eq (tgt := 33) hx hb dX8_begin_26 (by decide) (fun c_6 => ?_) (fun c_6 => ?_)
        · have c_6 : ¬ o_this.2.2.2.2.2.1 = true := by rw [(bI_eq0 _).mp c_6]; decide
          rw [if_neg c_6] at hF
          rw [if_neg c_6] at hs
          refine lv_iconst (v := 0) hx hb dX8_begin_33 (by decide) ?_
          refine pf_X8_52 (x := 0) hx hb hown ht hK hP hD hS 0 rfl (Nat.le_of_ble_eq_true rfl) dX8_begin_34 (fun H locs hP hD hS => ?_)
          have hP : va_P D vwCl [(a_this, oX8 a_this_bytes a_this_keys a_this_reg a_this_card a_this_filled a_this_taken a_this_line a_this_one a_this_two (o_this.1, o_this.2.1, 0, o_this.2.2.2.1, o_this.2.2.2.2.1, o_this.2.2.2.2.2.1, o_this.2.2.2.2.2.2.1, o_this.2.2.2.2.2.2.2.1, o_this.2.2.2.2.2.2.2.2.1, o_this.2.2.2.2.2.2.2.2.2.1, o_this.2.2.2.2.2.2.2.2.2.2.1, o_this.2.2.2.2.2.2.2.2.2.2.2.1, o_this.2.2.2.2.2.2.2.2.2.2.2.2.1, o_this.2.2.2.2.2.2.2.2.2.2.2.2.2.1, o_this.2.2.2.2.2.2.2.2.2.2.2.2.2.2.1, o_this.2.2.2.2.2.2.2.2.2.2.2.2.2.2.2.1, o_this.2.2.2.2.2.2.2.2.2.2.2.2.2.2.2.2.1, o_this.2.2.2.2.2.2.2.2.2.2.2.2.2.2.2.2.2.1, o_this.2.2.2.2.2.2.2.2.2.2.2.2.2.2.2.2.2.2.1, o_this.2.2.2.2.2.2.2.2.2.2.2.2.2.2.2.2.2.2.2.1, o_this.2.2.2.2.2.2.2.2.2.2.2.2.2.2.2.2.2.2.2.2.1, o_this.2.2.2.2.2.2.2.2.2.2.2.2.2.2.2.2.2.2.2.2.2.1, o_this.2.2.2.2.2.2.2.2.2.2.2.2.2.2.2.2.2.2.2.2.2.2.1, o_this.2.2.2.2.2.2.2.2.2.2.2.2.2.2.2.2.2.2.2.2.2.2.2.1, o_this.2.2.2.2.2.2.2.2.2.2.2.2.2.2.2.2.2.2.2.2.2.2.2.2)), (a_this_bytes, .inl (k_this_bytes, 2048, .inl r_this_bytes))] H := hP
          have hD : va_D A [(a_this, oX8 a_this_bytes a_this_keys a_this_reg a_this_card a_this_filled a_this_taken a_this_line a_this_one a_this_two (o_this.1, o_this.2.1, 0, o_this.2.2.2.1, o_this.2.2.2.2.1, o_this.2.2.2.2.2.1, o_this.2.2.2.2.2.2.1, o_this.2.2.2.2.2.2.2.1, o_this.2.2.2.2.2.2.2.2.1, o_this.2.2.2.2.2.2.2.2.2.1, o_this.2.2.2.2.2.2.2.2.2.2.1, o_this.2.2.2.2.2.2.2.2.2.2.2.1, o_this.2.2.2.2.2.2.2.2.2.2.2.2.1, o_this.2.2.2.2.2.2.2.2.2.2.2.2.2.1, o_this.2.2.2.2.2.2.2.2.2.2.2.2.2.2.1, o_this.2.2.2.2.2.2.2.2.2.2.2.2.2.2.2.1, o_this.2.2.2.2.2.2.2.2.2.2.2.2.2.2.2.2.1, o_this.2.2.2.2.2.2.2.2.2.2.2.2.2.2.2.2.2.1, o_this.2.2.2.2.2.2.2.2.2.2.2.2.2.2.2.2.2.2.1, o_this.2.2.2.2.2.2.2.2.2.2.2.2.2.2.2.2.2.2.2.1, o_this.2.2.2.2.2.2.2.2.2.2.2.2.2.2.2.2.2.2.2.2.1, o_this.2.2.2.2.2.2.2.2.2.2.2.2.2.2.2.2.2.2.2.2.2.1, o_this.2.2.2.2.2.2.2.2.2.2.2.2.2.2.2.2.2.2.2.2.2.2.1, o_this.2.2.2.2.2.2.2.2.2.2.2.2.2.2.2.2.2.2.2.2.2.2.2.1, o_this.2.2.2.2.2.2.2.2.2.2.2.2.2.2.2.2.2.2.2.2.2.2.2.2)), (a_this_bytes, .inl (k_this_bytes, 2048, .inl r_this_bytes))] := hD
          refine lv_aload_n hx hb dX8_begin_37 rfl (lv_at hl 0 rfl) ?_
          refine gf_X8_52 (v := .int 0) hx hb hown ht hK hP 0 rfl rfl dX8_begin_38 ?_
          refine lv_if_le (tgt := 45) hx hb dX8_begin_41 (by decide) (fun c_7 => ?_) (fun c_7 => ?_)
          · skip
            refine lv_aload_n hx hb dX8_begin_45 rfl (lv_at hl 0 rfl) ?_
            refine lv_iload_n hx hb dX8_begin_46 rfl (lv_at hl 1 rfl) ?_
            refine pf_X8_83 (x := p1) hx hb hown ht hK hP hD hS 0 rfl (Nat.le_of_ble_eq_true rfl) dX8_begin_47 (fun H locs hP hD hS => ?_)
            have hP : va_P D vwCl [(a_this, oX8 a_this_bytes a_this_keys a_this_reg a_this_card a_this_filled a_this_taken a_this_line a_this_one a_this_two (o_this.1, o_this.2.1, 0, o_this.2.2.2.1, o_this.2.2.2.2.1, o_this.2.2.2.2.2.1, o_this.2.2.2.2.2.2.1, o_this.2.2.2.2.2.2.2.1, o_this.2.2.2.2.2.2.2.2.1, o_this.2.2.2.2.2.2.2.2.2.1, o_this.2.2.2.2.2.2.2.2.2.2.1, o_this.2.2.2.2.2.2.2.2.2.2.2.1, o_this.2.2.2.2.2.2.2.2.2.2.2.2.1, p1, o_this.2.2.2.2.2.2.2.2.2.2.2.2.2.2.1, o_this.2.2.2.2.2.2.2.2.2.2.2.2.2.2.2.1, o_this.2.2.2.2.2.2.2.2.2.2.2.2.2.2.2.2.1, o_this.2.2.2.2.2.2.2.2.2.2.2.2.2.2.2.2.2.1, o_this.2.2.2.2.2.2.2.2.2.2.2.2.2.2.2.2.2.2.1, o_this.2.2.2.2.2.2.2.2.2.2.2.2.2.2.2.2.2.2.2.1, o_this.2.2.2.2.2.2.2.2.2.2.2.2.2.2.2.2.2.2.2.2.1, o_this.2.2.2.2.2.2.2.2.2.2.2.2.2.2.2.2.2.2.2.2.2.1, o_this.2.2.2.2.2.2.2.2.2.2.2.2.2.2.2.2.2.2.2.2.2.2.1, o_this.2.2.2.2.2.2.2.2.2.2.2.2.2.2.2.2.2.2.2.2.2.2.2.1, o_this.2.2.2.2.2.2.2.2.2.2.2.2.2.2.2.2.2.2.2.2.2.2.2.2)), (a_this_bytes, .inl (k_this_bytes, 2048, .inl r_this_bytes))] H := hP
            have hD : va_D A [(a_this, oX8 a_this_bytes a_this_keys a_this_reg a_this_card a_this_filled a_this_taken a_this_line a_this_one a_this_two (o_this.1, o_this.2.1, 0, o_this.2.2.2.1, o_this.2.2.2.2.1, o_this.2.2.2.2.2.1, o_this.2.2.2.2.2.2.1, o_this.2.2.2.2.2.2.2.1, o_this.2.2.2.2.2.2.2.2.1, o_this.2.2.2.2.2.2.2.2.2.1, o_this.2.2.2.2.2.2.2.2.2.2.1, o_this.2.2.2.2.2.2.2.2.2.2.2.1, o_this.2.2.2.2.2.2.2.2.2.2.2.2.1, p1, o_this.2.2.2.2.2.2.2.2.2.2.2.2.2.2.1, o_this.2.2.2.2.2.2.2.2.2.2.2.2.2.2.2.1, o_this.2.2.2.2.2.2.2.2.2.2.2.2.2.2.2.2.1, o_this.2.2.2.2.2.2.2.2.2.2.2.2.2.2.2.2.2.1, o_this.2.2.2.2.2.2.2.2.2.2.2.2.2.2.2.2.2.2.1, o_this.2.2.2.2.2.2.2.2.2.2.2.2.2.2.2.2.2.2.2.1, o_this.2.2.2.2.2.2.2.2.2.2.2.2.2.2.2.2.2.2.2.2.1, o_this.2.2.2.2.2.2.2.2.2.2.2.2.2.2.2.2.2.2.2.2.2.1, o_this.2.2.2.2.2.2.2.2.2.2.2.2.2.2.2.2.2.2.2.2.2.2.1, o_this.2.2.2.2.2.2.2.2.2.2.2.2.2.2.2.2.2.2.2.2.2.2.2.1, o_this.2.2.2.2.2.2.2.2.2.2.2.2.2.2.2.2.2.2.2.2.2.2.2.2)), (a_this_bytes, .inl (k_this_bytes, 2048, .inl r_this_bytes))] := hD
            refine lv_aload_n hx hb dX8_begin_50 rfl (lv_at hl 0 rfl) ?_
            refine lv_iconst (v := 1) hx hb dX8_begin_51 (by decide) ?_
            refine pf_X8_193 (x := true) hx hb hown ht hK hP hD hS 0 rfl (Nat.le_of_ble_eq_true rfl) dX8_begin_52 (fun H locs hP hD hS => ?_)
            have hP : va_P D vwCl [(a_this, oX8 a_this_bytes a_this_keys a_this_reg a_this_card a_this_filled a_this_taken a_this_line a_this_one a_this_two (o_this.1, o_this.2.1, 0, o_this.2.2.2.1, o_this.2.2.2.2.1, o_this.2.2.2.2.2.1, o_this.2.2.2.2.2.2.1, o_this.2.2.2.2.2.2.2.1, o_this.2.2.2.2.2.2.2.2.1, o_this.2.2.2.2.2.2.2.2.2.1, true, o_this.2.2.2.2.2.2.2.2.2.2.2.1, o_this.2.2.2.2.2.2.2.2.2.2.2.2.1, p1, o_this.2.2.2.2.2.2.2.2.2.2.2.2.2.2.1, o_this.2.2.2.2.2.2.2.2.2.2.2.2.2.2.2.1, o_this.2.2.2.2.2.2.2.2.2.2.2.2.2.2.2.2.1, o_this.2.2.2.2.2.2.2.2.2.2.2.2.2.2.2.2.2.1, o_this.2.2.2.2.2.2.2.2.2.2.2.2.2.2.2.2.2.2.1, o_this.2.2.2.2.2.2.2.2.2.2.2.2.2.2.2.2.2.2.2.1, o_this.2.2.2.2.2.2.2.2.2.2.2.2.2.2.2.2.2.2.2.2.1, o_this.2.2.2.2.2.2.2.2.2.2.2.2.2.2.2.2.2.2.2.2.2.1, o_this.2.2.2.2.2.2.2.2.2.2.2.2.2.2.2.2.2.2.2.2.2.2.1, o_this.2.2.2.2.2.2.2.2.2.2.2.2.2.2.2.2.2.2.2.2.2.2.2.1, o_this.2.2.2.2.2.2.2.2.2.2.2.2.2.2.2.2.2.2.2.2.2.2.2.2)), (a_this_bytes, .inl (k_this_bytes, 2048, .inl r_this_bytes))] H := hP
            have hD : va_D A [(a_this, oX8 a_this_bytes a_this_keys a_this_reg a_this_card a_this_filled a_this_taken a_this_line a_this_one a_this_two (o_this.1, o_this.2.1, 0, o_this.2.2.2.1, o_this.2.2.2.2.1, o_this.2.2.2.2.2.1, o_this.2.2.2.2.2.2.1, o_this.2.2.2.2.2.2.2.1, o_this.2.2.2.2.2.2.2.2.1, o_this.2.2.2.2.2.2.2.2.2.1, true, o_this.2.2.2.2.2.2.2.2.2.2.2.1, o_this.2.2.2.2.2.2.2.2.2.2.2.2.1, p1, o_this.2.2.2.2.2.2.2.2.2.2.2.2.2.2.1, o_this.2.2.2.2.2.2.2.2.2.2.2.2.2.2.2.1, o_this.2.2.2.2.2.2.2.2.2.2.2.2.2.2.2.2.1, o_this.2.2.2.2.2.2.2.2.2.2.2.2.2.2.2.2.2.1, o_this.2.2.2.2.2.2.2.2.2.2.2.2.2.2.2.2.2.2.1, o_this.2.2.2.2.2.2.2.2.2.2.2.2.2.2.2.2.2.2.2.1, o_this.2.2.2.2.2.2.2.2.2.2.2.2.2.2.2.2.2.2.2.2.1, o_this.2.2.2.2.2.2.2.2.2.2.2.2.2.2.2.2.2.2.2.2.2.1, o_this.2.2.2.2.2.2.2.2.2.2.2.2.2.2.2.2.2.2.2.2.2.2.1, o_this.2.2.2.2.2.2.2.2.2.2.2.2.2.2.2.2.2.2.2.2.2.2.2.1, o_this.2.2.2.2.2.2.2.2.2.2.2.2.2.2.2.2.2.2.2.2.2.2.2.2)), (a_this_bytes, .inl (k_this_bytes, 2048, .inl r_this_bytes))] := hD
            refine lv_aload_n hx hb dX8_begin_55 rfl (lv_at hl 0 rfl) ?_
            refine lv_iconst (v := 0) hx hb dX8_begin_56 (by decide) ?_
            refine pf_X8_211 (x := false) hx hb hown ht hK hP hD hS 0 rfl (Nat.le_of_ble_eq_true rfl) dX8_begin_57 (fun H locs hP hD hS => ?_)
            have hP : va_P D vwCl [(a_this, oX8 a_this_bytes a_this_keys a_this_reg a_this_card a_this_filled a_this_taken a_this_line a_this_one a_this_two (o_this.1, o_this.2.1, 0, o_this.2.2.2.1, o_this.2.2.2.2.1, o_this.2.2.2.2.2.1, o_this.2.2.2.2.2.2.1, o_this.2.2.2.2.2.2.2.1, o_this.2.2.2.2.2.2.2.2.1, o_this.2.2.2.2.2.2.2.2.2.1, true, false, o_this.2.2.2.2.2.2.2.2.2.2.2.2.1, p1, o_this.2.2.2.2.2.2.2.2.2.2.2.2.2.2.1, o_this.2.2.2.2.2.2.2.2.2.2.2.2.2.2.2.1, o_this.2.2.2.2.2.2.2.2.2.2.2.2.2.2.2.2.1, o_this.2.2.2.2.2.2.2.2.2.2.2.2.2.2.2.2.2.1, o_this.2.2.2.2.2.2.2.2.2.2.2.2.2.2.2.2.2.2.1, o_this.2.2.2.2.2.2.2.2.2.2.2.2.2.2.2.2.2.2.2.1, o_this.2.2.2.2.2.2.2.2.2.2.2.2.2.2.2.2.2.2.2.2.1, o_this.2.2.2.2.2.2.2.2.2.2.2.2.2.2.2.2.2.2.2.2.2.1, o_this.2.2.2.2.2.2.2.2.2.2.2.2.2.2.2.2.2.2.2.2.2.2.1, o_this.2.2.2.2.2.2.2.2.2.2.2.2.2.2.2.2.2.2.2.2.2.2.2.1, o_this.2.2.2.2.2.2.2.2.2.2.2.2.2.2.2.2.2.2.2.2.2.2.2.2)), (a_this_bytes, .inl (k_this_bytes, 2048, .inl r_this_bytes))] H := hP
            have hD : va_D A [(a_this, oX8 a_this_bytes a_this_keys a_this_reg a_this_card a_this_filled a_this_taken a_this_line a_this_one a_this_two (o_this.1, o_this.2.1, 0, o_this.2.2.2.1, o_this.2.2.2.2.1, o_this.2.2.2.2.2.1, o_this.2.2.2.2.2.2.1, o_this.2.2.2.2.2.2.2.1, o_this.2.2.2.2.2.2.2.2.1, o_this.2.2.2.2.2.2.2.2.2.1, true, false, o_this.2.2.2.2.2.2.2.2.2.2.2.2.1, p1, o_this.2.2.2.2.2.2.2.2.2.2.2.2.2.2.1, o_this.2.2.2.2.2.2.2.2.2.2.2.2.2.2.2.1, o_this.2.2.2.2.2.2.2.2.2.2.2.2.2.2.2.2.1, o_this.2.2.2.2.2.2.2.2.2.2.2.2.2.2.2.2.2.1, o_this.2.2.2.2.2.2.2.2.2.2.2.2.2.2.2.2.2.2.1, o_this.2.2.2.2.2.2.2.2.2.2.2.2.2.2.2.2.2.2.2.1, o_this.2.2.2.2.2.2.2.2.2.2.2.2.2.2.2.2.2.2.2.2.1, o_this.2.2.2.2.2.2.2.2.2.2.2.2.2.2.2.2.2.2.2.2.2.1, o_this.2.2.2.2.2.2.2.2.2.2.2.2.2.2.2.2.2.2.2.2.2.2.1, o_this.2.2.2.2.2.2.2.2.2.2.2.2.2.2.2.2.2.2.2.2.2.2.2.1, o_this.2.2.2.2.2.2.2.2.2.2.2.2.2.2.2.2.2.2.2.2.2.2.2.2)), (a_this_bytes, .inl (k_this_bytes, 2048, .inl r_this_bytes))] := hD
            refine lv_aload_n hx hb dX8_begin_60 rfl (lv_at hl 0 rfl) ?_
            refine lv_iconst (v := 0) hx hb dX8_begin_61 (by decide) ?_
            refine pf_X8_214 (x := false) hx hb hown ht hK hP hD hS 0 rfl (Nat.le_of_ble_eq_true rfl) dX8_begin_62 (fun H locs hP hD hS => ?_)
            have hP : va_P D vwCl [(a_this, oX8 a_this_bytes a_this_keys a_this_reg a_this_card a_this_filled a_this_taken a_this_line a_this_one a_this_two (o_this.1, o_this.2.1, 0, o_this.2.2.2.1, o_this.2.2.2.2.1, o_this.2.2.2.2.2.1, o_this.2.2.2.2.2.2.1, o_this.2.2.2.2.2.2.2.1, o_this.2.2.2.2.2.2.2.2.1, o_this.2.2.2.2.2.2.2.2.2.1, true, false, false, p1, o_this.2.2.2.2.2.2.2.2.2.2.2.2.2.2.1, o_this.2.2.2.2.2.2.2.2.2.2.2.2.2.2.2.1, o_this.2.2.2.2.2.2.2.2.2.2.2.2.2.2.2.2.1, o_this.2.2.2.2.2.2.2.2.2.2.2.2.2.2.2.2.2.1, o_this.2.2.2.2.2.2.2.2.2.2.2.2.2.2.2.2.2.2.1, o_this.2.2.2.2.2.2.2.2.2.2.2.2.2.2.2.2.2.2.2.1, o_this.2.2.2.2.2.2.2.2.2.2.2.2.2.2.2.2.2.2.2.2.1, o_this.2.2.2.2.2.2.2.2.2.2.2.2.2.2.2.2.2.2.2.2.2.1, o_this.2.2.2.2.2.2.2.2.2.2.2.2.2.2.2.2.2.2.2.2.2.2.1, o_this.2.2.2.2.2.2.2.2.2.2.2.2.2.2.2.2.2.2.2.2.2.2.2.1, o_this.2.2.2.2.2.2.2.2.2.2.2.2.2.2.2.2.2.2.2.2.2.2.2.2)), (a_this_bytes, .inl (k_this_bytes, 2048, .inl r_this_bytes))] H := hP
            have hD : va_D A [(a_this, oX8 a_this_bytes a_this_keys a_this_reg a_this_card a_this_filled a_this_taken a_this_line a_this_one a_this_two (o_this.1, o_this.2.1, 0, o_this.2.2.2.1, o_this.2.2.2.2.1, o_this.2.2.2.2.2.1, o_this.2.2.2.2.2.2.1, o_this.2.2.2.2.2.2.2.1, o_this.2.2.2.2.2.2.2.2.1, o_this.2.2.2.2.2.2.2.2.2.1, true, false, false, p1, o_this.2.2.2.2.2.2.2.2.2.2.2.2.2.2.1, o_this.2.2.2.2.2.2.2.2.2.2.2.2.2.2.2.1, o_this.2.2.2.2.2.2.2.2.2.2.2.2.2.2.2.2.1, o_this.2.2.2.2.2.2.2.2.2.2.2.2.2.2.2.2.2.1, o_this.2.2.2.2.2.2.2.2.2.2.2.2.2.2.2.2.2.2.1, o_this.2.2.2.2.2.2.2.2.2.2.2.2.2.2.2.2.2.2.2.1, o_this.2.2.2.2.2.2.2.2.2.2.2.2.2.2.2.2.2.2.2.2.1, o_this.2.2.2.2.2.2.2.2.2.2.2.2.2.2.2.2.2.2.2.2.2.1, o_this.2.2.2.2.2.2.2.2.2.2.2.2.2.2.2.2.2.2.2.2.2.2.1, o_this.2.2.2.2.2.2.2.2.2.2.2.2.2.2.2.2.2.2.2.2.2.2.2.1, o_this.2.2.2.2.2.2.2.2.2.2.2.2.2.2.2.2.2.2.2.2.2.2.2.2)), (a_this_bytes, .inl (k_this_bytes, 2048, .inl r_this_bytes))] := hD
            refine lv_aload_n hx hb dX8_begin_65 rfl (lv_at hl 0 rfl) ?_
            refine lv_iconst (v := 0) hx hb dX8_begin_66 (by decide) ?_
            refine pf_X8_217 (x := 0) hx hb hown ht hK hP hD hS 0 rfl (Nat.le_of_ble_eq_true rfl) dX8_begin_67 (fun H locs hP hD hS => ?_)
            have hP : va_P D vwCl [(a_this, oX8 a_this_bytes a_this_keys a_this_reg a_this_card a_this_filled a_this_taken a_this_line a_this_one a_this_two (o_this.1, o_this.2.1, 0, o_this.2.2.2.1, o_this.2.2.2.2.1, o_this.2.2.2.2.2.1, o_this.2.2.2.2.2.2.1, o_this.2.2.2.2.2.2.2.1, o_this.2.2.2.2.2.2.2.2.1, o_this.2.2.2.2.2.2.2.2.2.1, true, false, false, p1, o_this.2.2.2.2.2.2.2.2.2.2.2.2.2.2.1, o_this.2.2.2.2.2.2.2.2.2.2.2.2.2.2.2.1, 0, o_this.2.2.2.2.2.2.2.2.2.2.2.2.2.2.2.2.2.1, o_this.2.2.2.2.2.2.2.2.2.2.2.2.2.2.2.2.2.2.1, o_this.2.2.2.2.2.2.2.2.2.2.2.2.2.2.2.2.2.2.2.1, o_this.2.2.2.2.2.2.2.2.2.2.2.2.2.2.2.2.2.2.2.2.1, o_this.2.2.2.2.2.2.2.2.2.2.2.2.2.2.2.2.2.2.2.2.2.1, o_this.2.2.2.2.2.2.2.2.2.2.2.2.2.2.2.2.2.2.2.2.2.2.1, o_this.2.2.2.2.2.2.2.2.2.2.2.2.2.2.2.2.2.2.2.2.2.2.2.1, o_this.2.2.2.2.2.2.2.2.2.2.2.2.2.2.2.2.2.2.2.2.2.2.2.2)), (a_this_bytes, .inl (k_this_bytes, 2048, .inl r_this_bytes))] H := hP
            have hD : va_D A [(a_this, oX8 a_this_bytes a_this_keys a_this_reg a_this_card a_this_filled a_this_taken a_this_line a_this_one a_this_two (o_this.1, o_this.2.1, 0, o_this.2.2.2.1, o_this.2.2.2.2.1, o_this.2.2.2.2.2.1, o_this.2.2.2.2.2.2.1, o_this.2.2.2.2.2.2.2.1, o_this.2.2.2.2.2.2.2.2.1, o_this.2.2.2.2.2.2.2.2.2.1, true, false, false, p1, o_this.2.2.2.2.2.2.2.2.2.2.2.2.2.2.1, o_this.2.2.2.2.2.2.2.2.2.2.2.2.2.2.2.1, 0, o_this.2.2.2.2.2.2.2.2.2.2.2.2.2.2.2.2.2.1, o_this.2.2.2.2.2.2.2.2.2.2.2.2.2.2.2.2.2.2.1, o_this.2.2.2.2.2.2.2.2.2.2.2.2.2.2.2.2.2.2.2.1, o_this.2.2.2.2.2.2.2.2.2.2.2.2.2.2.2.2.2.2.2.2.1, o_this.2.2.2.2.2.2.2.2.2.2.2.2.2.2.2.2.2.2.2.2.2.1, o_this.2.2.2.2.2.2.2.2.2.2.2.2.2.2.2.2.2.2.2.2.2.2.1, o_this.2.2.2.2.2.2.2.2.2.2.2.2.2.2.2.2.2.2.2.2.2.2.2.1, o_this.2.2.2.2.2.2.2.2.2.2.2.2.2.2.2.2.2.2.2.2.2.2.2.2)), (a_this_bytes, .inl (k_this_bytes, 2048, .inl r_this_bytes))] := hD
            refine lv_aload_n hx hb dX8_begin_70 rfl (lv_at hl 0 rfl) ?_
            refine lv_aload_n hx hb dX8_begin_71 rfl (lv_at hl 0 rfl) ?_
            refine gf_X8_7 (v := .ref a_this_bytes) hx hb hown ht hK hP 0 rfl rfl dX8_begin_72 ?_
            refine lv_bipush (v := 72) hx hb dX8_begin_75 (by decide) ?_
            refine va_iald hx hb hK hP 1 0 rfl rfl (vp_in_iff.mpr (by decide)) dX8_begin_77 ?_
            refine lv_bipush (v := 16) hx hb dX8_begin_78 (by decide) ?_
            refine lv_idiv hx hb dX8_begin_80 (by decide) ?_
            refine lv_topi (fun y_8 hy => ?_)
            rw [q_let_of hy.symm] at hF
            rw [q_let_of hy.symm] at hs
            clear hy
            refine pf_X8_220 (x := y_8) hx hb hown ht hK hP hD hS 0 rfl (Nat.le_of_ble_eq_true rfl) dX8_begin_81 (fun H locs hP hD hS => ?_)
            have hP : va_P D vwCl [(a_this, oX8 a_this_bytes a_this_keys a_this_reg a_this_card a_this_filled a_this_taken a_this_line a_this_one a_this_two (o_this.1, o_this.2.1, 0, o_this.2.2.2.1, o_this.2.2.2.2.1, o_this.2.2.2.2.2.1, o_this.2.2.2.2.2.2.1, o_this.2.2.2.2.2.2.2.1, o_this.2.2.2.2.2.2.2.2.1, o_this.2.2.2.2.2.2.2.2.2.1, true, false, false, p1, y_8, o_this.2.2.2.2.2.2.2.2.2.2.2.2.2.2.2.1, 0, o_this.2.2.2.2.2.2.2.2.2.2.2.2.2.2.2.2.2.1, o_this.2.2.2.2.2.2.2.2.2.2.2.2.2.2.2.2.2.2.1, o_this.2.2.2.2.2.2.2.2.2.2.2.2.2.2.2.2.2.2.2.1, o_this.2.2.2.2.2.2.2.2.2.2.2.2.2.2.2.2.2.2.2.2.1, o_this.2.2.2.2.2.2.2.2.2.2.2.2.2.2.2.2.2.2.2.2.2.1, o_this.2.2.2.2.2.2.2.2.2.2.2.2.2.2.2.2.2.2.2.2.2.2.1, o_this.2.2.2.2.2.2.2.2.2.2.2.2.2.2.2.2.2.2.2.2.2.2.2.1, o_this.2.2.2.2.2.2.2.2.2.2.2.2.2.2.2.2.2.2.2.2.2.2.2.2)), (a_this_bytes, .inl (k_this_bytes, 2048, .inl r_this_bytes))] H := hP
            have hD : va_D A [(a_this, oX8 a_this_bytes a_this_keys a_this_reg a_this_card a_this_filled a_this_taken a_this_line a_this_one a_this_two (o_this.1, o_this.2.1, 0, o_this.2.2.2.1, o_this.2.2.2.2.1, o_this.2.2.2.2.2.1, o_this.2.2.2.2.2.2.1, o_this.2.2.2.2.2.2.2.1, o_this.2.2.2.2.2.2.2.2.1, o_this.2.2.2.2.2.2.2.2.2.1, true, false, false, p1, y_8, o_this.2.2.2.2.2.2.2.2.2.2.2.2.2.2.2.1, 0, o_this.2.2.2.2.2.2.2.2.2.2.2.2.2.2.2.2.2.1, o_this.2.2.2.2.2.2.2.2.2.2.2.2.2.2.2.2.2.2.1, o_this.2.2.2.2.2.2.2.2.2.2.2.2.2.2.2.2.2.2.2.1, o_this.2.2.2.2.2.2.2.2.2.2.2.2.2.2.2.2.2.2.2.2.1, o_this.2.2.2.2.2.2.2.2.2.2.2.2.2.2.2.2.2.2.2.2.2.1, o_this.2.2.2.2.2.2.2.2.2.2.2.2.2.2.2.2.2.2.2.2.2.2.1, o_this.2.2.2.2.2.2.2.2.2.2.2.2.2.2.2.2.2.2.2.2.2.2.2.1, o_this.2.2.2.2.2.2.2.2.2.2.2.2.2.2.2.2.2.2.2.2.2.2.2.2)), (a_this_bytes, .inl (k_this_bytes, 2048, .inl r_this_bytes))] := hD
            refine lv_aload_n hx hb dX8_begin_84 rfl (lv_at hl 0 rfl) ?_
            refine lv_aload_n hx hb dX8_begin_85 rfl (lv_at hl 0 rfl) ?_
            refine lv_bipush (v := 73) hx hb dX8_begin_86 (by decide) ?_
            refine lv_iconst (v := 3) hx hb dX8_begin_88 (by decide) ?_
            have hi_9 := hs
            refine q_Vi (rest := [.ref a_this]) (c_X8_field l D a_this a_this_bytes a_this_keys a_this_reg a_this_card a_this_filled a_this_taken a_this_line a_this_one a_this_two k_this_bytes (o_this.1, o_this.2.1, 0, o_this.2.2.2.1, o_this.2.2.2.2.1, o_this.2.2.2.2.2.1, o_this.2.2.2.2.2.2.1, o_this.2.2.2.2.2.2.2.1, o_this.2.2.2.2.2.2.2.2.1, o_this.2.2.2.2.2.2.2.2.2.1, true, false, false, p1, y_8, o_this.2.2.2.2.2.2.2.2.2.2.2.2.2.2.2.1, 0, o_this.2.2.2.2.2.2.2.2.2.2.2.2.2.2.2.2.2.1, o_this.2.2.2.2.2.2.2.2.2.2.2.2.2.2.2.2.2.2.1, o_this.2.2.2.2.2.2.2.2.2.2.2.2.2.2.2.2.2.2.2.1, o_this.2.2.2.2.2.2.2.2.2.2.2.2.2.2.2.2.2.2.2.2.1, o_this.2.2.2.2.2.2.2.2.2.2.2.2.2.2.2.2.2.2.2.2.2.1, o_this.2.2.2.2.2.2.2.2.2.2.2.2.2.2.2.2.2.2.2.2.2.2.1, o_this.2.2.2.2.2.2.2.2.2.2.2.2.2.2.2.2.2.2.2.2.2.2.2.1, o_this.2.2.2.2.2.2.2.2.2.2.2.2.2.2.2.2.2.2.2.2.2.2.2.2) r_this_bytes 73 3 hi_9) cv_X8_field hx hb hml hown ht hN hK hA hP hD hS hl.1 (km_X8_66) ⟨Nat.le_of_ble_eq_true rfl, Nat.le_of_ble_eq_true rfl⟩ rfl rfl [0, 1] (by decide) rfl [0] rfl (fun _ => rfl) (ci := 8) rfl rfl rfl rfl rfl (Nat.le_of_ble_eq_true rfl) dX8_begin_89 ⟨Nat.zero_le _, Nat.zero_le _⟩ (fun r u H locs hw hP hD hS => ?_)
            obtain ⟨rfl, rfl⟩ := hw
            have hP : va_P D vwCl [(a_this, oX8 a_this_bytes a_this_keys a_this_reg a_this_card a_this_filled a_this_taken a_this_line a_this_one a_this_two (o_this.1, o_this.2.1, 0, o_this.2.2.2.1, o_this.2.2.2.2.1, o_this.2.2.2.2.2.1, o_this.2.2.2.2.2.2.1, o_this.2.2.2.2.2.2.2.1, o_this.2.2.2.2.2.2.2.2.1, o_this.2.2.2.2.2.2.2.2.2.1, true, false, false, p1, y_8, o_this.2.2.2.2.2.2.2.2.2.2.2.2.2.2.2.1, 0, o_this.2.2.2.2.2.2.2.2.2.2.2.2.2.2.2.2.2.1, o_this.2.2.2.2.2.2.2.2.2.2.2.2.2.2.2.2.2.2.1, o_this.2.2.2.2.2.2.2.2.2.2.2.2.2.2.2.2.2.2.2.1, o_this.2.2.2.2.2.2.2.2.2.2.2.2.2.2.2.2.2.2.2.2.1, o_this.2.2.2.2.2.2.2.2.2.2.2.2.2.2.2.2.2.2.2.2.2.1, o_this.2.2.2.2.2.2.2.2.2.2.2.2.2.2.2.2.2.2.2.2.2.2.1, o_this.2.2.2.2.2.2.2.2.2.2.2.2.2.2.2.2.2.2.2.2.2.2.2.1, o_this.2.2.2.2.2.2.2.2.2.2.2.2.2.2.2.2.2.2.2.2.2.2.2.2)), (a_this_bytes, .inl (k_this_bytes, 2048, .inl r_this_bytes))] H := hP
            have hD : va_D A [(a_this, oX8 a_this_bytes a_this_keys a_this_reg a_this_card a_this_filled a_this_taken a_this_line a_this_one a_this_two (o_this.1, o_this.2.1, 0, o_this.2.2.2.1, o_this.2.2.2.2.1, o_this.2.2.2.2.2.1, o_this.2.2.2.2.2.2.1, o_this.2.2.2.2.2.2.2.1, o_this.2.2.2.2.2.2.2.2.1, o_this.2.2.2.2.2.2.2.2.2.1, true, false, false, p1, y_8, o_this.2.2.2.2.2.2.2.2.2.2.2.2.2.2.2.1, 0, o_this.2.2.2.2.2.2.2.2.2.2.2.2.2.2.2.2.2.1, o_this.2.2.2.2.2.2.2.2.2.2.2.2.2.2.2.2.2.2.1, o_this.2.2.2.2.2.2.2.2.2.2.2.2.2.2.2.2.2.2.2.1, o_this.2.2.2.2.2.2.2.2.2.2.2.2.2.2.2.2.2.2.2.2.1, o_this.2.2.2.2.2.2.2.2.2.2.2.2.2.2.2.2.2.2.2.2.2.1, o_this.2.2.2.2.2.2.2.2.2.2.2.2.2.2.2.2.2.2.2.2.2.2.1, o_this.2.2.2.2.2.2.2.2.2.2.2.2.2.2.2.2.2.2.2.2.2.2.2.1, o_this.2.2.2.2.2.2.2.2.2.2.2.2.2.2.2.2.2.2.2.2.2.2.2.2)), (a_this_bytes, .inl (k_this_bytes, 2048, .inl r_this_bytes))] := hD
            refine lv_topi (fun y_11 hy => ?_)
            rw [q_let_of hy.symm] at hF
            clear hy
            refine pf_X8_223 (x := y_11) hx hb hown ht hK hP hD hS 0 rfl (Nat.le_of_ble_eq_true rfl) dX8_begin_92 (fun H locs hP hD hS => ?_)
            have hP : va_P D vwCl [(a_this, oX8 a_this_bytes a_this_keys a_this_reg a_this_card a_this_filled a_this_taken a_this_line a_this_one a_this_two (o_this.1, o_this.2.1, 0, o_this.2.2.2.1, o_this.2.2.2.2.1, o_this.2.2.2.2.2.1, o_this.2.2.2.2.2.2.1, o_this.2.2.2.2.2.2.2.1, o_this.2.2.2.2.2.2.2.2.1, o_this.2.2.2.2.2.2.2.2.2.1, true, false, false, p1, y_8, y_11, 0, o_this.2.2.2.2.2.2.2.2.2.2.2.2.2.2.2.2.2.1, o_this.2.2.2.2.2.2.2.2.2.2.2.2.2.2.2.2.2.2.1, o_this.2.2.2.2.2.2.2.2.2.2.2.2.2.2.2.2.2.2.2.1, o_this.2.2.2.2.2.2.2.2.2.2.2.2.2.2.2.2.2.2.2.2.1, o_this.2.2.2.2.2.2.2.2.2.2.2.2.2.2.2.2.2.2.2.2.2.1, o_this.2.2.2.2.2.2.2.2.2.2.2.2.2.2.2.2.2.2.2.2.2.2.1, o_this.2.2.2.2.2.2.2.2.2.2.2.2.2.2.2.2.2.2.2.2.2.2.2.1, o_this.2.2.2.2.2.2.2.2.2.2.2.2.2.2.2.2.2.2.2.2.2.2.2.2)), (a_this_bytes, .inl (k_this_bytes, 2048, .inl r_this_bytes))] H := hP
            have hD : va_D A [(a_this, oX8 a_this_bytes a_this_keys a_this_reg a_this_card a_this_filled a_this_taken a_this_line a_this_one a_this_two (o_this.1, o_this.2.1, 0, o_this.2.2.2.1, o_this.2.2.2.2.1, o_this.2.2.2.2.2.1, o_this.2.2.2.2.2.2.1, o_this.2.2.2.2.2.2.2.1, o_this.2.2.2.2.2.2.2.2.1, o_this.2.2.2.2.2.2.2.2.2.1, true, false, false, p1, y_8, y_11, 0, o_this.2.2.2.2.2.2.2.2.2.2.2.2.2.2.2.2.2.1, o_this.2.2.2.2.2.2.2.2.2.2.2.2.2.2.2.2.2.2.1, o_this.2.2.2.2.2.2.2.2.2.2.2.2.2.2.2.2.2.2.2.1, o_this.2.2.2.2.2.2.2.2.2.2.2.2.2.2.2.2.2.2.2.2.1, o_this.2.2.2.2.2.2.2.2.2.2.2.2.2.2.2.2.2.2.2.2.2.1, o_this.2.2.2.2.2.2.2.2.2.2.2.2.2.2.2.2.2.2.2.2.2.2.1, o_this.2.2.2.2.2.2.2.2.2.2.2.2.2.2.2.2.2.2.2.2.2.2.2.1, o_this.2.2.2.2.2.2.2.2.2.2.2.2.2.2.2.2.2.2.2.2.2.2.2.2)), (a_this_bytes, .inl (k_this_bytes, 2048, .inl r_this_bytes))] := hD
            exact hQ (o_this.1, o_this.2.1, 0, o_this.2.2.2.1, o_this.2.2.2.2.1, o_this.2.2.2.2.2.1, o_this.2.2.2.2.2.2.1, o_this.2.2.2.2.2.2.2.1, o_this.2.2.2.2.2.2.2.2.1, o_this.2.2.2.2.2.2.2.2.2.1, true, false, false, p1, y_8, y_11, 0, o_this.2.2.2.2.2.2.2.2.2.2.2.2.2.2.2.2.2.1, o_this.2.2.2.2.2.2.2.2.2.2.2.2.2.2.2.2.2.2.1, o_this.2.2.2.2.2.2.2.2.2.2.2.2.2.2.2.2.2.2.2.1, o_this.2.2.2.2.2.2.2.2.2.2.2.2.2.2.2.2.2.2.2.2.1, o_this.2.2.2.2.2.2.2.2.2.2.2.2.2.2.2.2.2.2.2.2.2.1, o_this.2.2.2.2.2.2.2.2.2.2.2.2.2.2.2.2.2.2.2.2.2.2.1, o_this.2.2.2.2.2.2.2.2.2.2.2.2.2.2.2.2.2.2.2.2.2.2.2.1, o_this.2.2.2.2.2.2.2.2.2.2.2.2.2.2.2.2.2.2.2.2.2.2.2.2) _ _ _ _ dX8_begin_95 hF.symm hP hD hS
          · exact absurd c_7 (by decide)
        · have c_6 := (bI_ne0 _).mp c_6
          rw [if_pos c_6] at hF
          rw [if_pos c_6] at hs
          refine lv_iconst (v := 2) hx hb dX8_begin_29 (by decide) ?_
          refine lv_goto (tgt := 34) hx hb dX8_begin_30 (by decide) ?_
          refine pf_X8_52 (x := 2) hx hb hown ht hK hP hD hS 0 rfl (Nat.le_of_ble_eq_true rfl) dX8_begin_34 (fun H locs hP hD hS => ?_)
          have hP : va_P D vwCl [(a_this, oX8 a_this_bytes a_this_keys a_this_reg a_this_card a_this_filled a_this_taken a_this_line a_this_one a_this_two (o_this.1, o_this.2.1, 2, o_this.2.2.2.1, o_this.2.2.2.2.1, o_this.2.2.2.2.2.1, o_this.2.2.2.2.2.2.1, o_this.2.2.2.2.2.2.2.1, o_this.2.2.2.2.2.2.2.2.1, o_this.2.2.2.2.2.2.2.2.2.1, o_this.2.2.2.2.2.2.2.2.2.2.1, o_this.2.2.2.2.2.2.2.2.2.2.2.1, o_this.2.2.2.2.2.2.2.2.2.2.2.2.1, o_this.2.2.2.2.2.2.2.2.2.2.2.2.2.1, o_this.2.2.2.2.2.2.2.2.2.2.2.2.2.2.1, o_this.2.2.2.2.2.2.2.2.2.2.2.2.2.2.2.1, o_this.2.2.2.2.2.2.2.2.2.2.2.2.2.2.2.2.1, o_this.2.2.2.2.2.2.2.2.2.2.2.2.2.2.2.2.2.1, o_this.2.2.2.2.2.2.2.2.2.2.2.2.2.2.2.2.2.2.1, o_this.2.2.2.2.2.2.2.2.2.2.2.2.2.2.2.2.2.2.2.1, o_this.2.2.2.2.2.2.2.2.2.2.2.2.2.2.2.2.2.2.2.2.1, o_this.2.2.2.2.2.2.2.2.2.2.2.2.2.2.2.2.2.2.2.2.2.1, o_this.2.2.2.2.2.2.2.2.2.2.2.2.2.2.2.2.2.2.2.2.2.2.1, o_this.2.2.2.2.2.2.2.2.2.2.2.2.2.2.2.2.2.2.2.2.2.2.2.1, o_this.2.2.2.2.2.2.2.2.2.2.2.2.2.2.2.2.2.2.2.2.2.2.2.2)), (a_this_bytes, .inl (k_this_bytes, 2048, .inl r_this_bytes))] H := hP
          have hD : va_D A [(a_this, oX8 a_this_bytes a_this_keys a_this_reg a_this_card a_this_filled a_this_taken a_this_line a_this_one a_this_two (o_this.1, o_this.2.1, 2, o_this.2.2.2.1, o_this.2.2.2.2.1, o_this.2.2.2.2.2.1, o_this.2.2.2.2.2.2.1, o_this.2.2.2.2.2.2.2.1, o_this.2.2.2.2.2.2.2.2.1, o_this.2.2.2.2.2.2.2.2.2.1, o_this.2.2.2.2.2.2.2.2.2.2.1, o_this.2.2.2.2.2.2.2.2.2.2.2.1, o_this.2.2.2.2.2.2.2.2.2.2.2.2.1, o_this.2.2.2.2.2.2.2.2.2.2.2.2.2.1, o_this.2.2.2.2.2.2.2.2.2.2.2.2.2.2.1, o_this.2.2.2.2.2.2.2.2.2.2.2.2.2.2.2.1, o_this.2.2.2.2.2.2.2.2.2.2.2.2.2.2.2.2.1, o_this.2.2.2.2.2.2.2.2.2.2.2.2.2.2.2.2.2.1, o_this.2.2.2.2.2.2.2.2.2.2.2.2.2.2.2.2.2.2.1, o_this.2.2.2.2.2.2.2.2.2.2.2.2.2.2.2.2.2.2.2.1, o_this.2.2.2.2.2.2.2.2.2.2.2.2.2.2.2.2.2.2.2.2.1, o_this.2.2.2.2.2.2.2.2.2.2.2.2.2.2.2.2.2.2.2.2.2.1, o_this.2.2.2.2.2.2.2.2.2.2.2.2.2.2.2.2.2.2.2.2.2.2.1, o_this.2.2.2.2.2.2.2.2.2.2.2.2.2.2.2.2.2.2.2.2.2.2.2.1, o_this.2.2.2.2.2.2.2.2.2.2.2.2.2.2.2.2.2.2.2.2.2.2.2.2)), (a_this_bytes, .inl (k_this_bytes, 2048, .inl r_this_bytes))] := hD
          refine lv_aload_n hx hb dX8_begin_37 rfl (lv_at hl 0 rfl) ?_
          refine gf_X8_52 (v := .int 2) hx hb hown ht hK hP 0 rfl rfl dX8_begin_38 ?_
          refine lv_if_le (tgt := 45) hx hb dX8_begin_41 (by decide) (fun c_12 => ?_) (fun c_12 => ?_)
          · exact absurd c_12 (by decide)
          · skip
            exact hQ (o_this.1, o_this.2.1, 2, o_this.2.2.2.1, o_this.2.2.2.2.1, o_this.2.2.2.2.2.1, o_this.2.2.2.2.2.2.1, o_this.2.2.2.2.2.2.2.1, o_this.2.2.2.2.2.2.2.2.1, o_this.2.2.2.2.2.2.2.2.2.1, o_this.2.2.2.2.2.2.2.2.2.2.1, o_this.2.2.2.2.2.2.2.2.2.2.2.1, o_this.2.2.2.2.2.2.2.2.2.2.2.2.1, o_this.2.2.2.2.2.2.2.2.2.2.2.2.2.1, o_this.2.2.2.2.2.2.2.2.2.2.2.2.2.2.1, o_this.2.2.2.2.2.2.2.2.2.2.2.2.2.2.2.1, o_this.2.2.2.2.2.2.2.2.2.2.2.2.2.2.2.2.1, o_this.2.2.2.2.2.2.2.2.2.2.2.2.2.2.2.2.2.1, o_this.2.2.2.2.2.2.2.2.2.2.2.2.2.2.2.2.2.2.1, o_this.2.2.2.2.2.2.2.2.2.2.2.2.2.2.2.2.2.2.2.1, o_this.2.2.2.2.2.2.2.2.2.2.2.2.2.2.2.2.2.2.2.2.1, o_this.2.2.2.2.2.2.2.2.2.2.2.2.2.2.2.2.2.2.2.2.2.1, o_this.2.2.2.2.2.2.2.2.2.2.2.2.2.2.2.2.2.2.2.2.2.2.1, o_this.2.2.2.2.2.2.2.2.2.2.2.2.2.2.2.2.2.2.2.2.2.2.2.1, o_this.2.2.2.2.2.2.2.2.2.2.2.2.2.2.2.2.2.2.2.2.2.2.2.2) _ _ _ _ dX8_begin_44 hF.symm hP hD hS
    · skip
      rw [if_neg c_3] at hF
      rw [if_neg c_3] at hs
      refine lv_iconst (v := 3) hx hb dX8_begin_11 (by decide) ?_
      refine lv_goto (tgt := 34) hx hb dX8_begin_12 (by decide) ?_
      refine pf_X8_52 (x := 3) hx hb hown ht hK hP hD hS 0 rfl (Nat.le_of_ble_eq_true rfl) dX8_begin_34 (fun H locs hP hD hS => ?_)
      have hP : va_P D vwCl [(a_this, oX8 a_this_bytes a_this_keys a_this_reg a_this_card a_this_filled a_this_taken a_this_line a_this_one a_this_two (o_this.1, o_this.2.1, 3, o_this.2.2.2.1, o_this.2.2.2.2.1, o_this.2.2.2.2.2.1, o_this.2.2.2.2.2.2.1, o_this.2.2.2.2.2.2.2.1, o_this.2.2.2.2.2.2.2.2.1, o_this.2.2.2.2.2.2.2.2.2.1, o_this.2.2.2.2.2.2.2.2.2.2.1, o_this.2.2.2.2.2.2.2.2.2.2.2.1, o_this.2.2.2.2.2.2.2.2.2.2.2.2.1, o_this.2.2.2.2.2.2.2.2.2.2.2.2.2.1, o_this.2.2.2.2.2.2.2.2.2.2.2.2.2.2.1, o_this.2.2.2.2.2.2.2.2.2.2.2.2.2.2.2.1, o_this.2.2.2.2.2.2.2.2.2.2.2.2.2.2.2.2.1, o_this.2.2.2.2.2.2.2.2.2.2.2.2.2.2.2.2.2.1, o_this.2.2.2.2.2.2.2.2.2.2.2.2.2.2.2.2.2.2.1, o_this.2.2.2.2.2.2.2.2.2.2.2.2.2.2.2.2.2.2.2.1, o_this.2.2.2.2.2.2.2.2.2.2.2.2.2.2.2.2.2.2.2.2.1, o_this.2.2.2.2.2.2.2.2.2.2.2.2.2.2.2.2.2.2.2.2.2.1, o_this.2.2.2.2.2.2.2.2.2.2.2.2.2.2.2.2.2.2.2.2.2.2.1, o_this.2.2.2.2.2.2.2.2.2.2.2.2.2.2.2.2.2.2.2.2.2.2.2.1, o_this.2.2.2.2.2.2.2.2.2.2.2.2.2.2.2.2.2.2.2.2.2.2.2.2)), (a_this_bytes, .inl (k_this_bytes, 2048, .inl r_this_bytes))] H := hP
      have hD : va_D A [(a_this, oX8 a_this_bytes a_this_keys a_this_reg a_this_card a_this_filled a_this_taken a_this_line a_this_one a_this_two (o_this.1, o_this.2.1, 3, o_this.2.2.2.1, o_this.2.2.2.2.1, o_this.2.2.2.2.2.1, o_this.2.2.2.2.2.2.1, o_this.2.2.2.2.2.2.2.1, o_this.2.2.2.2.2.2.2.2.1, o_this.2.2.2.2.2.2.2.2.2.1, o_this.2.2.2.2.2.2.2.2.2.2.1, o_this.2.2.2.2.2.2.2.2.2.2.2.1, o_this.2.2.2.2.2.2.2.2.2.2.2.2.1, o_this.2.2.2.2.2.2.2.2.2.2.2.2.2.1, o_this.2.2.2.2.2.2.2.2.2.2.2.2.2.2.1, o_this.2.2.2.2.2.2.2.2.2.2.2.2.2.2.2.1, o_this.2.2.2.2.2.2.2.2.2.2.2.2.2.2.2.2.1, o_this.2.2.2.2.2.2.2.2.2.2.2.2.2.2.2.2.2.1, o_this.2.2.2.2.2.2.2.2.2.2.2.2.2.2.2.2.2.2.1, o_this.2.2.2.2.2.2.2.2.2.2.2.2.2.2.2.2.2.2.2.1, o_this.2.2.2.2.2.2.2.2.2.2.2.2.2.2.2.2.2.2.2.2.1, o_this.2.2.2.2.2.2.2.2.2.2.2.2.2.2.2.2.2.2.2.2.2.1, o_this.2.2.2.2.2.2.2.2.2.2.2.2.2.2.2.2.2.2.2.2.2.2.1, o_this.2.2.2.2.2.2.2.2.2.2.2.2.2.2.2.2.2.2.2.2.2.2.2.1, o_this.2.2.2.2.2.2.2.2.2.2.2.2.2.2.2.2.2.2.2.2.2.2.2.2)), (a_this_bytes, .inl (k_this_bytes, 2048, .inl r_this_bytes))] := hD
      refine lv_aload_n hx hb dX8_begin_37 rfl (lv_at hl 0 rfl) ?_
      refine gf_X8_52 (v := .int 3) hx hb hown ht hK hP 0 rfl rfl dX8_begin_38 ?_
      refine lv_if_le (tgt := 45) hx hb dX8_begin_41 (by decide) (fun c_13 => ?_) (fun c_13 => ?_)
      · exact absurd c_13 (by decide)
      · skip
        exact hQ (o_this.1, o_this.2.1, 3, o_this.2.2.2.1, o_this.2.2.2.2.1, o_this.2.2.2.2.2.1, o_this.2.2.2.2.2.2.1, o_this.2.2.2.2.2.2.2.1, o_this.2.2.2.2.2.2.2.2.1, o_this.2.2.2.2.2.2.2.2.2.1, o_this.2.2.2.2.2.2.2.2.2.2.1, o_this.2.2.2.2.2.2.2.2.2.2.2.1, o_this.2.2.2.2.2.2.2.2.2.2.2.2.1, o_this.2.2.2.2.2.2.2.2.2.2.2.2.2.1, o_this.2.2.2.2.2.2.2.2.2.2.2.2.2.2.1, o_this.2.2.2.2.2.2.2.2.2.2.2.2.2.2.2.1, o_this.2.2.2.2.2.2.2.2.2.2.2.2.2.2.2.2.1, o_this.2.2.2.2.2.2.2.2.2.2.2.2.2.2.2.2.2.1, o_this.2.2.2.2.2.2.2.2.2.2.2.2.2.2.2.2.2.2.1, o_this.2.2.2.2.2.2.2.2.2.2.2.2.2.2.2.2.2.2.2.1, o_this.2.2.2.2.2.2.2.2.2.2.2.2.2.2.2.2.2.2.2.2.1, o_this.2.2.2.2.2.2.2.2.2.2.2.2.2.2.2.2.2.2.2.2.2.1, o_this.2.2.2.2.2.2.2.2.2.2.2.2.2.2.2.2.2.2.2.2.2.2.1, o_this.2.2.2.2.2.2.2.2.2.2.2.2.2.2.2.2.2.2.2.2.2.2.2.1, o_this.2.2.2.2.2.2.2.2.2.2.2.2.2.2.2.2.2.2.2.2.2.2.2.2) _ _ _ _ dX8_begin_44 hF.symm hP hD hS
theorem cv_X8_begin : qV yX8_begin cX8_begin 2 none 1 := ⟨kc_X8_begin, kt_X8_begin, ks_X8_begin, kn_X8, by decide, by decide +kernel⟩
def f_X8_doStored (o_this : Int32 × Int32 × Int32 × Int32 × Bool × Bool × Int32 × Int32 × Int32 × Int32 × Bool × Bool × Bool × Int32 × Int32 × Int32 × Int32 × Int32 × Int32 × Int32 × Int32 × Int32 × Int32 × Int32 × Int32) (r_this_bytes : Nat → Int32) (r_this_keys : Nat → Int32) (r_this_reg : Nat → Int32) (p1 : Int32) (p2 : Int32) (p3 : Int32) : (Int32 × Int32 × Int32 × Int32 × Bool × Bool × Int32 × Int32 × Int32 × Int32 × Bool × Bool × Bool × Int32 × Int32 × Int32 × Int32 × Int32 × Int32 × Int32 × Int32 × Int32 × Int32 × Int32 × Int32) × (Nat → Int32) × (Nat → Int32) := (if p1 ≤ (135 : Int32) then (if p1 = (144 : Int32) then (if p1 = (144 : Int32) then (q_let (f_X8_several o_this r_this_bytes r_this_keys r_this_reg true (p2 / (16 : Int32)) (((((p2 - p2 / (16 : Int32) * (16 : Int32)) - (p2 / (16 : Int32))) + (16 : Int32)) - (((p2 - p2 / (16 : Int32) * (16 : Int32)) - (p2 / (16 : Int32))) + (16 : Int32)) / (16 : Int32) * (16 : Int32)) + (1 : Int32)) p3) fun w_7 => (w_7.1, w_7.2.1, w_7.2.2)) else (q_let (f_X8_several o_this r_this_bytes r_this_keys r_this_reg false (p2 / (16 : Int32)) (((((p2 - p2 / (16 : Int32) * (16 : Int32)) - (p2 / (16 : Int32))) + (16 : Int32)) - (((p2 - p2 / (16 : Int32) * (16 : Int32)) - (p2 / (16 : Int32))) + (16 : Int32)) / (16 : Int32) * (16 : Int32)) + (1 : Int32)) p3) fun w_5 => (w_5.1, w_5.2.1, w_5.2.2))) else (if p1 = (152 : Int32) then (if p1 = (144 : Int32) then (q_let (f_X8_several o_this r_this_bytes r_this_keys r_this_reg true (p2 / (16 : Int32)) (((((p2 - p2 / (16 : Int32) * (16 : Int32)) - (p2 / (16 : Int32))) + (16 : Int32)) - (((p2 - p2 / (16 : Int32) * (16 : Int32)) - (p2 / (16 : Int32))) + (16 : Int32)) / (16 : Int32) * (16 : Int32)) + (1 : Int32)) p3) fun w_54 => (w_54.1, w_54.2.1, w_54.2.2)) else (q_let (f_X8_several o_this r_this_bytes r_this_keys r_this_reg false (p2 / (16 : Int32)) (((((p2 - p2 / (16 : Int32) * (16 : Int32)) - (p2 / (16 : Int32))) + (16 : Int32)) - (((p2 - p2 / (16 : Int32) * (16 : Int32)) - (p2 / (16 : Int32))) + (16 : Int32)) / (16 : Int32) * (16 : Int32)) + (1 : Int32)) p3) fun w_52 => (w_52.1, w_52.2.1, w_52.2.2))) else (if p1 = (130 : Int32) then (q_let (f_X8_good o_this r_this_keys p3 8 8 false) fun w_46 => (if w_46.1 = true then (q_let (f_X8_loadStatus w_46.2 r_this_bytes p3) fun w_49 => (w_49, r_this_bytes, r_this_reg)) else (w_46.2, r_this_bytes, r_this_reg))) else (if p1 = (156 : Int32) then (q_let (f_X8_begin o_this r_this_bytes p2) fun w_44 => (w_44, r_this_bytes, r_this_reg)) else (if p1 = (157 : Int32) then (if o_this.2.2.2.2.2.2.2.2.2.2.1 = true then (if o_this.2.2.2.2.2.2.2.2.2.2.1 = true then (if o_this.2.2.2.2.2.1 = true then ((o_this.1, o_this.2.1, 2, o_this.2.2.2.1, o_this.2.2.2.2.1, true, o_this.2.2.2.2.2.2.1, o_this.2.2.2.2.2.2.2.1, o_this.2.2.2.2.2.2.2.2.1, o_this.2.2.2.2.2.2.2.2.2.1, o_this.2.2.2.2.2.2.2.2.2.2.1, o_this.2.2.2.2.2.2.2.2.2.2.2.1, o_this.2.2.2.2.2.2.2.2.2.2.2.2.1, o_this.2.2.2.2.2.2.2.2.2.2.2.2.2.1, o_this.2.2.2.2.2.2.2.2.2.2.2.2.2.2.1, o_this.2.2.2.2.2.2.2.2.2.2.2.2.2.2.2.1, o_this.2.2.2.2.2.2.2.2.2.2.2.2.2.2.2.2.1, o_this.2.2.2.2.2.2.2.2.2.2.2.2.2.2.2.2.2.1, o_this.2.2.2.2.2.2.2.2.2.2.2.2.2.2.2.2.2.2.1, o_this.2.2.2.2.2.2.2.2.2.2.2.2.2.2.2.2.2.2.2.1, o_this.2.2.2.2.2.2.2.2.2.2.2.2.2.2.2.2.2.2.2.2.1, o_this.2.2.2.2.2.2.2.2.2.2.2.2.2.2.2.2.2.2.2.2.2.1, o_this.2.2.2.2.2.2.2.2.2.2.2.2.2.2.2.2.2.2.2.2.2.2.1, o_this.2.2.2.2.2.2.2.2.2.2.2.2.2.2.2.2.2.2.2.2.2.2.2.1, o_this.2.2.2.2.2.2.2.2.2.2.2.2.2.2.2.2.2.2.2.2.2.2.2.2), r_this_bytes, r_this_reg) else ((o_this.1, o_this.2.1, 2, o_this.2.2.2.1, o_this.2.2.2.2.1, false, o_this.2.2.2.2.2.2.1, o_this.2.2.2.2.2.2.2.1, o_this.2.2.2.2.2.2.2.2.1, o_this.2.2.2.2.2.2.2.2.2.1, o_this.2.2.2.2.2.2.2.2.2.2.1, o_this.2.2.2.2.2.2.2.2.2.2.2.1, o_this.2.2.2.2.2.2.2.2.2.2.2.2.1, o_this.2.2.2.2.2.2.2.2.2.2.2.2.2.1, o_this.2.2.2.2.2.2.2.2.2.2.2.2.2.2.1, o_this.2.2.2.2.2.2.2.2.2.2.2.2.2.2.2.1, o_this.2.2.2.2.2.2.2.2.2.2.2.2.2.2.2.2.1, o_this.2.2.2.2.2.2.2.2.2.2.2.2.2.2.2.2.2.1, o_this.2.2.2.2.2.2.2.2.2.2.2.2.2.2.2.2.2.2.1, o_this.2.2.2.2.2.2.2.2.2.2.2.2.2.2.2.2.2.2.2.1, o_this.2.2.2.2.2.2.2.2.2.2.2.2.2.2.2.2.2.2.2.2.1, o_this.2.2.2.2.2.2.2.2.2.2.2.2.2.2.2.2.2.2.2.2.2.1, o_this.2.2.2.2.2.2.2.2.2.2.2.2.2.2.2.2.2.2.2.2.2.2.1, o_this.2.2.2.2.2.2.2.2.2.2.2.2.2.2.2.2.2.2.2.2.2.2.2.1, o_this.2.2.2.2.2.2.2.2.2.2.2.2.2.2.2.2.2.2.2.2.2.2.2.2), r_this_bytes, r_this_reg)) else ((o_this.1, o_this.2.1, 2, o_this.2.2.2.1, o_this.2.2.2.2.1, false, o_this.2.2.2.2.2.2.1, o_this.2.2.2.2.2.2.2.1, o_this.2.2.2.2.2.2.2.2.1, o_this.2.2.2.2.2.2.2.2.2.1, o_this.2.2.2.2.2.2.2.2.2.2.1, o_this.2.2.2.2.2.2.2.2.2.2.2.1, o_this.2.2.2.2.2.2.2.2.2.2.2.2.1, o_this.2.2.2.2.2.2.2.2.2.2.2.2.2.1, o_this.2.2.2.2.2.2.2.2.2.2.2.2.2.2.1, o_this.2.2.2.2.2.2.2.2.2.2.2.2.2.2.2.1, o_this.2.2.2.2.2.2.2.2.2.2.2.2.2.2.2.2.1, o_this.2.2.2.2.2.2.2.2.2.2.2.2.2.2.2.2.2.1, o_this.2.2.2.2.2.2.2.2.2.2.2.2.2.2.2.2.2.2.1, o_this.2.2.2.2.2.2.2.2.2.2.2.2.2.2.2.2.2.2.2.1, o_this.2.2.2.2.2.2.2.2.2.2.2.2.2.2.2.2.2.2.2.2.1, o_this.2.2.2.2.2.2.2.2.2.2.2.2.2.2.2.2.2.2.2.2.2.1, o_this.2.2.2.2.2.2.2.2.2.2.2.2.2.2.2.2.2.2.2.2.2.2.1, o_this.2.2.2.2.2.2.2.2.2.2.2.2.2.2.2.2.2.2.2.2.2.2.2.1, o_this.2.2.2.2.2.2.2.2.2.2.2.2.2.2.2.2.2.2.2.2.2.2.2.2), r_this_bytes, r_this_reg)) else (if o_this.2.2.2.2.2.1 = true then (if o_this.2.2.2.2.2.2.2.2.2.2.1 = true then (if o_this.2.2.2.2.2.1 = true then ((o_this.1, o_this.2.1, 1, o_this.2.2.2.1, o_this.2.2.2.2.1, true, o_this.2.2.2.2.2.2.1, o_this.2.2.2.2.2.2.2.1, o_this.2.2.2.2.2.2.2.2.1, o_this.2.2.2.2.2.2.2.2.2.1, o_this.2.2.2.2.2.2.2.2.2.2.1, o_this.2.2.2.2.2.2.2.2.2.2.2.1, o_this.2.2.2.2.2.2.2.2.2.2.2.2.1, o_this.2.2.2.2.2.2.2.2.2.2.2.2.2.1, o_this.2.2.2.2.2.2.2.2.2.2.2.2.2.2.1, o_this.2.2.2.2.2.2.2.2.2.2.2.2.2.2.2.1, o_this.2.2.2.2.2.2.2.2.2.2.2.2.2.2.2.2.1, o_this.2.2.2.2.2.2.2.2.2.2.2.2.2.2.2.2.2.1, o_this.2.2.2.2.2.2.2.2.2.2.2.2.2.2.2.2.2.2.1, o_this.2.2.2.2.2.2.2.2.2.2.2.2.2.2.2.2.2.2.2.1, o_this.2.2.2.2.2.2.2.2.2.2.2.2.2.2.2.2.2.2.2.2.1, o_this.2.2.2.2.2.2.2.2.2.2.2.2.2.2.2.2.2.2.2.2.2.1, o_this.2.2.2.2.2.2.2.2.2.2.2.2.2.2.2.2.2.2.2.2.2.2.1, o_this.2.2.2.2.2.2.2.2.2.2.2.2.2.2.2.2.2.2.2.2.2.2.2.1, o_this.2.2.2.2.2.2.2.2.2.2.2.2.2.2.2.2.2.2.2.2.2.2.2.2), r_this_bytes, r_this_reg) else ((o_this.1, o_this.2.1, 1, o_this.2.2.2.1, o_this.2.2.2.2.1, false, o_this.2.2.2.2.2.2.1, o_this.2.2.2.2.2.2.2.1, o_this.2.2.2.2.2.2.2.2.1, o_this.2.2.2.2.2.2.2.2.2.1, o_this.2.2.2.2.2.2.2.2.2.2.1, o_this.2.2.2.2.2.2.2.2.2.2.2.1, o_this.2.2.2.2.2.2.2.2.2.2.2.2.1, o_this.2.2.2.2.2.2.2.2.2.2.2.2.2.1, o_this.2.2.2.2.2.2.2.2.2.2.2.2.2.2.1, o_this.2.2.2.2.2.2.2.2.2.2.2.2.2.2.2.1, o_this.2.2.2.2.2.2.2.2.2.2.2.2.2.2.2.2.1, o_this.2.2.2.2.2.2.2.2.2.2.2.2.2.2.2.2.2.1, o_this.2.2.2.2.2.2.2.2.2.2.2.2.2.2.2.2.2.2.1, o_this.2.2.2.2.2.2.2.2.2.2.2.2.2.2.2.2.2.2.2.1, o_this.2.2.2.2.2.2.2.2.2.2.2.2.2.2.2.2.2.2.2.2.1, o_this.2.2.2.2.2.2.2.2.2.2.2.2.2.2.2.2.2.2.2.2.2.1, o_this.2.2.2.2.2.2.2.2.2.2.2.2.2.2.2.2.2.2.2.2.2.2.1, o_this.2.2.2.2.2.2.2.2.2.2.2.2.2.2.2.2.2.2.2.2.2.2.2.1, o_this.2.2.2.2.2.2.2.2.2.2.2.2.2.2.2.2.2.2.2.2.2.2.2.2), r_this_bytes, r_this_reg)) else ((o_this.1, o_this.2.1, 1, o_this.2.2.2.1, o_this.2.2.2.2.1, false, o_this.2.2.2.2.2.2.1, o_this.2.2.2.2.2.2.2.1, o_this.2.2.2.2.2.2.2.2.1, o_this.2.2.2.2.2.2.2.2.2.1, o_this.2.2.2.2.2.2.2.2.2.2.1, o_this.2.2.2.2.2.2.2.2.2.2.2.1, o_this.2.2.2.2.2.2.2.2.2.2.2.2.1, o_this.2.2.2.2.2.2.2.2.2.2.2.2.2.1, o_this.2.2.2.2.2.2.2.2.2.2.2.2.2.2.1, o_this.2.2.2.2.2.2.2.2.2.2.2.2.2.2.2.1, o_this.2.2.2.2.2.2.2.2.2.2.2.2.2.2.2.2.1, o_this.2.2.2.2.2.2.2.2.2.2.2.2.2.2.2.2.2.1, o_this.2.2.2.2.2.2.2.2.2.2.2.2.2.2.2.2.2.2.1, o_this.2.2.2.2.2.2.2.2.2.2.2.2.2.2.2.2.2.2.2.1, o_this.2.2.2.2.2.2.2.2.2.2.2.2.2.2.2.2.2.2.2.2.1, o_this.2.2.2.2.2.2.2.2.2.2.2.2.2.2.2.2.2.2.2.2.2.1, o_this.2.2.2.2.2.2.2.2.2.2.2.2.2.2.2.2.2.2.2.2.2.2.1, o_this.2.2.2.2.2.2.2.2.2.2.2.2.2.2.2.2.2.2.2.2.2.2.2.1, o_this.2.2.2.2.2.2.2.2.2.2.2.2.2.2.2.2.2.2.2.2.2.2.2.2), r_this_bytes, r_this_reg)) else (if o_this.2.2.2.2.2.2.2.2.2.2.1 = true then (if o_this.2.2.2.2.2.1 = true then ((o_this.1, o_this.2.1, 0, o_this.2.2.2.1, o_this.2.2.2.2.1, true, o_this.2.2.2.2.2.2.1, o_this.2.2.2.2.2.2.2.1, o_this.2.2.2.2.2.2.2.2.1, o_this.2.2.2.2.2.2.2.2.2.1, o_this.2.2.2.2.2.2.2.2.2.2.1, o_this.2.2.2.2.2.2.2.2.2.2.2.1, o_this.2.2.2.2.2.2.2.2.2.2.2.2.1, o_this.2.2.2.2.2.2.2.2.2.2.2.2.2.1, o_this.2.2.2.2.2.2.2.2.2.2.2.2.2.2.1, o_this.2.2.2.2.2.2.2.2.2.2.2.2.2.2.2.1, o_this.2.2.2.2.2.2.2.2.2.2.2.2.2.2.2.2.1, o_this.2.2.2.2.2.2.2.2.2.2.2.2.2.2.2.2.2.1, o_this.2.2.2.2.2.2.2.2.2.2.2.2.2.2.2.2.2.2.1, o_this.2.2.2.2.2.2.2.2.2.2.2.2.2.2.2.2.2.2.2.1, o_this.2.2.2.2.2.2.2.2.2.2.2.2.2.2.2.2.2.2.2.2.1, o_this.2.2.2.2.2.2.2.2.2.2.2.2.2.2.2.2.2.2.2.2.2.1, o_this.2.2.2.2.2.2.2.2.2.2.2.2.2.2.2.2.2.2.2.2.2.2.1, o_this.2.2.2.2.2.2.2.2.2.2.2.2.2.2.2.2.2.2.2.2.2.2.2.1, o_this.2.2.2.2.2.2.2.2.2.2.2.2.2.2.2.2.2.2.2.2.2.2.2.2), r_this_bytes, r_this_reg) else ((o_this.1, o_this.2.1, 0, o_this.2.2.2.1, o_this.2.2.2.2.1, false, o_this.2.2.2.2.2.2.1, o_this.2.2.2.2.2.2.2.1, o_this.2.2.2.2.2.2.2.2.1, o_this.2.2.2.2.2.2.2.2.2.1, o_this.2.2.2.2.2.2.2.2.2.2.1, o_this.2.2.2.2.2.2.2.2.2.2.2.1, o_this.2.2.2.2.2.2.2.2.2.2.2.2.1, o_this.2.2.2.2.2.2.2.2.2.2.2.2.2.1, o_this.2.2.2.2.2.2.2.2.2.2.2.2.2.2.1, o_this.2.2.2.2.2.2.2.2.2.2.2.2.2.2.2.1, o_this.2.2.2.2.2.2.2.2.2.2.2.2.2.2.2.2.1, o_this.2.2.2.2.2.2.2.2.2.2.2.2.2.2.2.2.2.1, o_this.2.2.2.2.2.2.2.2.2.2.2.2.2.2.2.2.2.2.1, o_this.2.2.2.2.2.2.2.2.2.2.2.2.2.2.2.2.2.2.2.1, o_this.2.2.2.2.2.2.2.2.2.2.2.2.2.2.2.2.2.2.2.2.1, o_this.2.2.2.2.2.2.2.2.2.2.2.2.2.2.2.2.2.2.2.2.2.1, o_this.2.2.2.2.2.2.2.2.2.2.2.2.2.2.2.2.2.2.2.2.2.2.1, o_this.2.2.2.2.2.2.2.2.2.2.2.2.2.2.2.2.2.2.2.2.2.2.2.1, o_this.2.2.2.2.2.2.2.2.2.2.2.2.2.2.2.2.2.2.2.2.2.2.2.2), r_this_bytes, r_this_reg)) else ((o_this.1, o_this.2.1, 0, o_this.2.2.2.1, o_this.2.2.2.2.1, false, o_this.2.2.2.2.2.2.1, o_this.2.2.2.2.2.2.2.1, o_this.2.2.2.2.2.2.2.2.1, o_this.2.2.2.2.2.2.2.2.2.1, o_this.2.2.2.2.2.2.2.2.2.2.1, o_this.2.2.2.2.2.2.2.2.2.2.2.1, o_this.2.2.2.2.2.2.2.2.2.2.2.2.1, o_this.2.2.2.2.2.2.2.2.2.2.2.2.2.1, o_this.2.2.2.2.2.2.2.2.2.2.2.2.2.2.1, o_this.2.2.2.2.2.2.2.2.2.2.2.2.2.2.2.1, o_this.2.2.2.2.2.2.2.2.2.2.2.2.2.2.2.2.1, o_this.2.2.2.2.2.2.2.2.2.2.2.2.2.2.2.2.2.1, o_this.2.2.2.2.2.2.2.2.2.2.2.2.2.2.2.2.2.2.1, o_this.2.2.2.2.2.2.2.2.2.2.2.2.2.2.2.2.2.2.2.1, o_this.2.2.2.2.2.2.2.2.2.2.2.2.2.2.2.2.2.2.2.2.1, o_this.2.2.2.2.2.2.2.2.2.2.2.2.2.2.2.2.2.2.2.2.2.1, o_this.2.2.2.2.2.2.2.2.2.2.2.2.2.2.2.2.2.2.2.2.2.2.1, o_this.2.2.2.2.2.2.2.2.2.2.2.2.2.2.2.2.2.2.2.2.2.2.2.1, o_this.2.2.2.2.2.2.2.2.2.2.2.2.2.2.2.2.2.2.2.2.2.2.2.2), r_this_bytes, r_this_reg)))) else (if p1 = (146 : Int32) then (q_let (f_X8_good o_this r_this_keys p3 1 1 true) fun w_14 => (if w_14.1 = true then (q_let (f_X8_single w_14.2 r_this_bytes p1 p2 p3) fun w_17 => (w_17.1, w_17.2, r_this_reg)) else (w_14.2, r_this_bytes, r_this_reg))) else (if p1 = (148 : Int32) then (q_let (f_X8_good o_this r_this_keys p3 1 1 true) fun w_20 => (if w_20.1 = true then (q_let (f_X8_single w_20.2 r_this_bytes p1 p2 p3) fun w_23 => (w_23.1, w_23.2, r_this_reg)) else (w_20.2, r_this_bytes, r_this_reg))) else (if p1 = (150 : Int32) then (q_let (f_X8_good o_this r_this_keys p3 1 1 true) fun w_31 => (if w_31.1 = true then (q_let (f_X8_single w_31.2 r_this_bytes p1 p2 p3) fun w_34 => (w_34.1, w_34.2, r_this_reg)) else (w_31.2, r_this_bytes, r_this_reg))) else (q_let (f_X8_good o_this r_this_keys p3 1 1 false) fun w_26 => (if w_26.1 = true then (q_let (f_X8_single w_26.2 r_this_bytes p1 p2 p3) fun w_29 => (w_29.1, w_29.2, r_this_reg)) else (w_26.2, r_this_bytes, r_this_reg))))))))))) else (if (139 : Int32) ≤ p1 then (if p1 = (144 : Int32) then (if p1 = (144 : Int32) then (q_let (f_X8_several o_this r_this_bytes r_this_keys r_this_reg true (p2 / (16 : Int32)) (((((p2 - p2 / (16 : Int32) * (16 : Int32)) - (p2 / (16 : Int32))) + (16 : Int32)) - (((p2 - p2 / (16 : Int32) * (16 : Int32)) - (p2 / (16 : Int32))) + (16 : Int32)) / (16 : Int32) * (16 : Int32)) + (1 : Int32)) p3) fun w_61 => (w_61.1, w_61.2.1, w_61.2.2)) else (q_let (f_X8_several o_this r_this_bytes r_this_keys r_this_reg false (p2 / (16 : Int32)) (((((p2 - p2 / (16 : Int32) * (16 : Int32)) - (p2 / (16 : Int32))) + (16 : Int32)) - (((p2 - p2 / (16 : Int32) * (16 : Int32)) - (p2 / (16 : Int32))) + (16 : Int32)) / (16 : Int32) * (16 : Int32)) + (1 : Int32)) p3) fun w_59 => (w_59.1, w_59.2.1, w_59.2.2))) else (if p1 = (152 : Int32) then (if p1 = (144 : Int32) then (q_let (f_X8_several o_this r_this_bytes r_this_keys r_this_reg true (p2 / (16 : Int32)) (((((p2 - p2 / (16 : Int32) * (16 : Int32)) - (p2 / (16 : Int32))) + (16 : Int32)) - (((p2 - p2 / (16 : Int32) * (16 : Int32)) - (p2 / (16 : Int32))) + (16 : Int32)) / (16 : Int32) * (16 : Int32)) + (1 : Int32)) p3) fun w_108 => (w_108.1, w_108.2.1, w_108.2.2)) else (q_let (f_X8_several o_this r_this_bytes r_this_keys r_this_reg false (p2 / (16 : Int32)) (((((p2 - p2 / (16 : Int32) * (16 : Int32)) - (p2 / (16 : Int32))) + (16 : Int32)) - (((p2 - p2 / (16 : Int32) * (16 : Int32)) - (p2 / (16 : Int32))) + (16 : Int32)) / (16 : Int32) * (16 : Int32)) + (1 : Int32)) p3) fun w_106 => (w_106.1, w_106.2.1, w_106.2.2))) else (if p1 = (130 : Int32) then (q_let (f_X8_good o_this r_this_keys p3 8 8 false) fun w_100 => (if w_100.1 = true then (q_let (f_X8_loadStatus w_100.2 r_this_bytes p3) fun w_103 => (w_103, r_this_bytes, r_this_reg)) else (w_100.2, r_this_bytes, r_this_reg))) else (if p1 = (156 : Int32) then (q_let (f_X8_begin o_this r_this_bytes p2) fun w_98 => (w_98, r_this_bytes, r_this_reg)) else (if p1 = (157 : Int32) then (if o_this.2.2.2.2.2.2.2.2.2.2.1 = true then (if o_this.2.2.2.2.2.2.2.2.2.2.1 = true then (if o_this.2.2.2.2.2.1 = true then ((o_this.1, o_this.2.1, 2, o_this.2.2.2.1, o_this.2.2.2.2.1, true, o_this.2.2.2.2.2.2.1, o_this.2.2.2.2.2.2.2.1, o_this.2.2.2.2.2.2.2.2.1, o_this.2.2.2.2.2.2.2.2.2.1, o_this.2.2.2.2.2.2.2.2.2.2.1, o_this.2.2.2.2.2.2.2.2.2.2.2.1, o_this.2.2.2.2.2.2.2.2.2.2.2.2.1, o_this.2.2.2.2.2.2.2.2.2.2.2.2.2.1, o_this.2.2.2.2.2.2.2.2.2.2.2.2.2.2.1, o_this.2.2.2.2.2.2.2.2.2.2.2.2.2.2.2.1, o_this.2.2.2.2.2.2.2.2.2.2.2.2.2.2.2.2.1, o_this.2.2.2.2.2.2.2.2.2.2.2.2.2.2.2.2.2.1, o_this.2.2.2.2.2.2.2.2.2.2.2.2.2.2.2.2.2.2.1, o_this.2.2.2.2.2.2.2.2.2.2.2.2.2.2.2.2.2.2.2.1, o_this.2.2.2.2.2.2.2.2.2.2.2.2.2.2.2.2.2.2.2.2.1, o_this.2.2.2.2.2.2.2.2.2.2.2.2.2.2.2.2.2.2.2.2.2.1, o_this.2.2.2.2.2.2.2.2.2.2.2.2.2.2.2.2.2.2.2.2.2.2.1, o_this.2.2.2.2.2.2.2.2.2.2.2.2.2.2.2.2.2.2.2.2.2.2.2.1, o_this.2.2.2.2.2.2.2.2.2.2.2.2.2.2.2.2.2.2.2.2.2.2.2.2), r_this_bytes, r_this_reg) else ((o_this.1, o_this.2.1, 2, o_this.2.2.2.1, o_this.2.2.2.2.1, false, o_this.2.2.2.2.2.2.1, o_this.2.2.2.2.2.2.2.1, o_this.2.2.2.2.2.2.2.2.1, o_this.2.2.2.2.2.2.2.2.2.1, o_this.2.2.2.2.2.2.2.2.2.2.1, o_this.2.2.2.2.2.2.2.2.2.2.2.1, o_this.2.2.2.2.2.2.2.2.2.2.2.2.1, o_this.2.2.2.2.2.2.2.2.2.2.2.2.2.1, o_this.2.2.2.2.2.2.2.2.2.2.2.2.2.2.1, o_this.2.2.2.2.2.2.2.2.2.2.2.2.2.2.2.1, o_this.2.2.2.2.2.2.2.2.2.2.2.2.2.2.2.2.1, o_this.2.2.2.2.2.2.2.2.2.2.2.2.2.2.2.2.2.1, o_this.2.2.2.2.2.2.2.2.2.2.2.2.2.2.2.2.2.2.1, o_this.2.2.2.2.2.2.2.2.2.2.2.2.2.2.2.2.2.2.2.1, o_this.2.2.2.2.2.2.2.2.2.2.2.2.2.2.2.2.2.2.2.2.1, o_this.2.2.2.2.2.2.2.2.2.2.2.2.2.2.2.2.2.2.2.2.2.1, o_this.2.2.2.2.2.2.2.2.2.2.2.2.2.2.2.2.2.2.2.2.2.2.1, o_this.2.2.2.2.2.2.2.2.2.2.2.2.2.2.2.2.2.2.2.2.2.2.2.1, o_this.2.2.2.2.2.2.2.2.2.2.2.2.2.2.2.2.2.2.2.2.2.2.2.2), r_this_bytes, r_this_reg)) else ((o_this.1, o_this.2.1, 2, o_this.2.2.2.1, o_this.2.2.2.2.1, false, o_this.2.2.2.2.2.2.1, o_this.2.2.2.2.2.2.2.1, o_this.2.2.2.2.2.2.2.2.1, o_this.2.2.2.2.2.2.2.2.2.1, o_this.2.2.2.2.2.2.2.2.2.2.1, o_this.2.2.2.2.2.2.2.2.2.2.2.1, o_this.2.2.2.2.2.2.2.2.2.2.2.2.1, o_this.2.2.2.2.2.2.2.2.2.2.2.2.2.1, o_this.2.2.2.2.2.2.2.2.2.2.2.2.2.2.1, o_this.2.2.2.2.2.2.2.2.2.2.2.2.2.2.2.1, o_this.2.2.2.2.2.2.2.2.2.2.2.2.2.2.2.2.1, o_this.2.2.2.2.2.2.2.2.2.2.2.2.2.2.2.2.2.1, o_this.2.2.2.2.2.2.2.2.2.2.2.2.2.2.2.2.2.2.1, o_this.2.2.2.2.2.2.2.2.2.2.2.2.2.2.2.2.2.2.2.1, o_this.2.2.2.2.2.2.2.2.2.2.2.2.2.2.2.2.2.2.2.2.1, o_this.2.2.2.2.2.2.2.2.2.2.2.2.2.2.2.2.2.2.2.2.2.1, o_this.2.2.2.2.2.2.2.2.2.2.2.2.2.2.2.2.2.2.2.2.2.2.1, o_this.2.2.2.2.2.2.2.2.2.2.2.2.2.2.2.2.2.2.2.2.2.2.2.1, o_this.2.2.2.2.2.2.2.2.2.2.2.2.2.2.2.2.2.2.2.2.2.2.2.2), r_this_bytes, r_this_reg)) else (if o_this.2.2.2.2.2.1 = true then (if o_this.2.2.2.2.2.2.2.2.2.2.1 = true then (if o_this.2.2.2.2.2.1 = true then ((o_this.1, o_this.2.1, 1, o_this.2.2.2.1, o_this.2.2.2.2.1, true, o_this.2.2.2.2.2.2.1, o_this.2.2.2.2.2.2.2.1, o_this.2.2.2.2.2.2.2.2.1, o_this.2.2.2.2.2.2.2.2.2.1, o_this.2.2.2.2.2.2.2.2.2.2.1, o_this.2.2.2.2.2.2.2.2.2.2.2.1, o_this.2.2.2.2.2.2.2.2.2.2.2.2.1, o_this.2.2.2.2.2.2.2.2.2.2.2.2.2.1, o_this.2.2.2.2.2.2.2.2.2.2.2.2.2.2.1, o_this.2.2.2.2.2.2.2.2.2.2.2.2.2.2.2.1, o_this.2.2.2.2.2.2.2.2.2.2.2.2.2.2.2.2.1, o_this.2.2.2.2.2.2.2.2.2.2.2.2.2.2.2.2.2.1, o_this.2.2.2.2.2.2.2.2.2.2.2.2.2.2.2.2.2.2.1, o_this.2.2.2.2.2.2.2.2.2.2.2.2.2.2.2.2.2.2.2.1, o_this.2.2.2.2.2.2.2.2.2.2.2.2.2.2.2.2.2.2.2.2.1, o_this.2.2.2.2.2.2.2.2.2.2.2.2.2.2.2.2.2.2.2.2.2.1, o_this.2.2.2.2.2.2.2.2.2.2.2.2.2.2.2.2.2.2.2.2.2.2.1, o_this.2.2.2.2.2.2.2.2.2.2.2.2.2.2.2.2.2.2.2.2.2.2.2.1, o_this.2.2.2.2.2.2.2.2.2.2.2.2.2.2.2.2.2.2.2.2.2.2.2.2), r_this_bytes, r_this_reg) else ((o_this.1, o_this.2.1, 1, o_this.2.2.2.1, o_this.2.2.2.2.1, false, o_this.2.2.2.2.2.2.1, o_this.2.2.2.2.2.2.2.1, o_this.2.2.2.2.2.2.2.2.1, o_this.2.2.2.2.2.2.2.2.2.1, o_this.2.2.2.2.2.2.2.2.2.2.1, o_this.2.2.2.2.2.2.2.2.2.2.2.1, o_this.2.2.2.2.2.2.2.2.2.2.2.2.1, o_this.2.2.2.2.2.2.2.2.2.2.2.2.2.1, o_this.2.2.2.2.2.2.2.2.2.2.2.2.2.2.1, o_this.2.2.2.2.2.2.2.2.2.2.2.2.2.2.2.1, o_this.2.2.2.2.2.2.2.2.2.2.2.2.2.2.2.2.1, o_this.2.2.2.2.2.2.2.2.2.2.2.2.2.2.2.2.2.1, o_this.2.2.2.2.2.2.2.2.2.2.2.2.2.2.2.2.2.2.1, o_this.2.2.2.2.2.2.2.2.2.2.2.2.2.2.2.2.2.2.2.1, o_this.2.2.2.2.2.2.2.2.2.2.2.2.2.2.2.2.2.2.2.2.1, o_this.2.2.2.2.2.2.2.2.2.2.2.2.2.2.2.2.2.2.2.2.2.1, o_this.2.2.2.2.2.2.2.2.2.2.2.2.2.2.2.2.2.2.2.2.2.2.1, o_this.2.2.2.2.2.2.2.2.2.2.2.2.2.2.2.2.2.2.2.2.2.2.2.1, o_this.2.2.2.2.2.2.2.2.2.2.2.2.2.2.2.2.2.2.2.2.2.2.2.2), r_this_bytes, r_this_reg)) else ((o_this.1, o_this.2.1, 1, o_this.2.2.2.1, o_this.2.2.2.2.1, false, o_this.2.2.2.2.2.2.1, o_this.2.2.2.2.2.2.2.1, o_this.2.2.2.2.2.2.2.2.1, o_this.2.2.2.2.2.2.2.2.2.1, o_this.2.2.2.2.2.2.2.2.2.2.1, o_this.2.2.2.2.2.2.2.2.2.2.2.1, o_this.2.2.2.2.2.2.2.2.2.2.2.2.1, o_this.2.2.2.2.2.2.2.2.2.2.2.2.2.1, o_this.2.2.2.2.2.2.2.2.2.2.2.2.2.2.1, o_this.2.2.2.2.2.2.2.2.2.2.2.2.2.2.2.1, o_this.2.2.2.2.2.2.2.2.2.2.2.2.2.2.2.2.1, o_this.2.2.2.2.2.2.2.2.2.2.2.2.2.2.2.2.2.1, o_this.2.2.2.2.2.2.2.2.2.2.2.2.2.2.2.2.2.2.1, o_this.2.2.2.2.2.2.2.2.2.2.2.2.2.2.2.2.2.2.2.1, o_this.2.2.2.2.2.2.2.2.2.2.2.2.2.2.2.2.2.2.2.2.1, o_this.2.2.2.2.2.2.2.2.2.2.2.2.2.2.2.2.2.2.2.2.2.1, o_this.2.2.2.2.2.2.2.2.2.2.2.2.2.2.2.2.2.2.2.2.2.2.1, o_this.2.2.2.2.2.2.2.2.2.2.2.2.2.2.2.2.2.2.2.2.2.2.2.1, o_this.2.2.2.2.2.2.2.2.2.2.2.2.2.2.2.2.2.2.2.2.2.2.2.2), r_this_bytes, r_this_reg)) else (if o_this.2.2.2.2.2.2.2.2.2.2.1 = true then (if o_this.2.2.2.2.2.1 = true then ((o_this.1, o_this.2.1, 0, o_this.2.2.2.1, o_this.2.2.2.2.1, true, o_this.2.2.2.2.2.2.1, o_this.2.2.2.2.2.2.2.1, o_this.2.2.2.2.2.2.2.2.1, o_this.2.2.2.2.2.2.2.2.2.1, o_this.2.2.2.2.2.2.2.2.2.2.1, o_this.2.2.2.2.2.2.2.2.2.2.2.1, o_this.2.2.2.2.2.2.2.2.2.2.2.2.1, o_this.2.2.2.2.2.2.2.2.2.2.2.2.2.1, o_this.2.2.2.2.2.2.2.2.2.2.2.2.2.2.1, o_this.2.2.2.2.2.2.2.2.2.2.2.2.2.2.2.1, o_this.2.2.2.2.2.2.2.2.2.2.2.2.2.2.2.2.1, o_this.2.2.2.2.2.2.2.2.2.2.2.2.2.2.2.2.2.1, o_this.2.2.2.2.2.2.2.2.2.2.2.2.2.2.2.2.2.2.1, o_this.2.2.2.2.2.2.2.2.2.2.2.2.2.2.2.2.2.2.2.1, o_this.2.2.2.2.2.2.2.2.2.2.2.2.2.2.2.2.2.2.2.2.1, o_this.2.2.2.2.2.2.2.2.2.2.2.2.2.2.2.2.2.2.2.2.2.1, o_this.2.2.2.2.2.2.2.2.2.2.2.2.2.2.2.2.2.2.2.2.2.2.1, o_this.2.2.2.2.2.2.2.2.2.2.2.2.2.2.2.2.2.2.2.2.2.2.2.1, o_this.2.2.2.2.2.2.2.2.2.2.2.2.2.2.2.2.2.2.2.2.2.2.2.2), r_this_bytes, r_this_reg) else ((o_this.1, o_this.2.1, 0, o_this.2.2.2.1, o_this.2.2.2.2.1, false, o_this.2.2.2.2.2.2.1, o_this.2.2.2.2.2.2.2.1, o_this.2.2.2.2.2.2.2.2.1, o_this.2.2.2.2.2.2.2.2.2.1, o_this.2.2.2.2.2.2.2.2.2.2.1, o_this.2.2.2.2.2.2.2.2.2.2.2.1, o_this.2.2.2.2.2.2.2.2.2.2.2.2.1, o_this.2.2.2.2.2.2.2.2.2.2.2.2.2.1, o_this.2.2.2.2.2.2.2.2.2.2.2.2.2.2.1, o_this.2.2.2.2.2.2.2.2.2.2.2.2.2.2.2.1, o_this.2.2.2.2.2.2.2.2.2.2.2.2.2.2.2.2.1, o_this.2.2.2.2.2.2.2.2.2.2.2.2.2.2.2.2.2.1, o_this.2.2.2.2.2.2.2.2.2.2.2.2.2.2.2.2.2.2.1, o_this.2.2.2.2.2.2.2.2.2.2.2.2.2.2.2.2.2.2.2.1, o_this.2.2.2.2.2.2.2.2.2.2.2.2.2.2.2.2.2.2.2.2.1, o_this.2.2.2.2.2.2.2.2.2.2.2.2.2.2.2.2.2.2.2.2.2.1, o_this.2.2.2.2.2.2.2.2.2.2.2.2.2.2.2.2.2.2.2.2.2.2.1, o_this.2.2.2.2.2.2.2.2.2.2.2.2.2.2.2.2.2.2.2.2.2.2.2.1, o_this.2.2.2.2.2.2.2.2.2.2.2.2.2.2.2.2.2.2.2.2.2.2.2.2), r_this_bytes, r_this_reg)) else ((o_this.1, o_this.2.1, 0, o_this.2.2.2.1, o_this.2.2.2.2.1, false, o_this.2.2.2.2.2.2.1, o_this.2.2.2.2.2.2.2.1, o_this.2.2.2.2.2.2.2.2.1, o_this.2.2.2.2.2.2.2.2.2.1, o_this.2.2.2.2.2.2.2.2.2.2.1, o_this.2.2.2.2.2.2.2.2.2.2.2.1, o_this.2.2.2.2.2.2.2.2.2.2.2.2.1, o_this.2.2.2.2.2.2.2.2.2.2.2.2.2.1, o_this.2.2.2.2.2.2.2.2.2.2.2.2.2.2.1, o_this.2.2.2.2.2.2.2.2.2.2.2.2.2.2.2.1, o_this.2.2.2.2.2.2.2.2.2.2.2.2.2.2.2.2.1, o_this.2.2.2.2.2.2.2.2.2.2.2.2.2.2.2.2.2.1, o_this.2.2.2.2.2.2.2.2.2.2.2.2.2.2.2.2.2.2.1, o_this.2.2.2.2.2.2.2.2.2.2.2.2.2.2.2.2.2.2.2.1, o_this.2.2.2.2.2.2.2.2.2.2.2.2.2.2.2.2.2.2.2.2.1, o_this.2.2.2.2.2.2.2.2.2.2.2.2.2.2.2.2.2.2.2.2.2.1, o_this.2.2.2.2.2.2.2.2.2.2.2.2.2.2.2.2.2.2.2.2.2.2.1, o_this.2.2.2.2.2.2.2.2.2.2.2.2.2.2.2.2.2.2.2.2.2.2.2.1, o_this.2.2.2.2.2.2.2.2.2.2.2.2.2.2.2.2.2.2.2.2.2.2.2.2), r_this_bytes, r_this_reg)))) else (if p1 = (146 : Int32) then (q_let (f_X8_good o_this r_this_keys p3 1 1 true) fun w_68 => (if w_68.1 = true then (q_let (f_X8_single w_68.2 r_this_bytes p1 p2 p3) fun w_71 => (w_71.1, w_71.2, r_this_reg)) else (w_68.2, r_this_bytes, r_this_reg))) else (if p1 = (148 : Int32) then (q_let (f_X8_good o_this r_this_keys p3 1 1 true) fun w_74 => (if w_74.1 = true then (q_let (f_X8_single w_74.2 r_this_bytes p1 p2 p3) fun w_77 => (w_77.1, w_77.2, r_this_reg)) else (w_74.2, r_this_bytes, r_this_reg))) else (if p1 = (150 : Int32) then (q_let (f_X8_good o_this r_this_keys p3 1 1 true) fun w_85 => (if w_85.1 = true then (q_let (f_X8_single w_85.2 r_this_bytes p1 p2 p3) fun w_88 => (w_88.1, w_88.2, r_this_reg)) else (w_85.2, r_this_bytes, r_this_reg))) else (q_let (f_X8_good o_this r_this_keys p3 1 1 false) fun w_80 => (if w_80.1 = true then (q_let (f_X8_single w_80.2 r_this_bytes p1 p2 p3) fun w_83 => (w_83.1, w_83.2, r_this_reg)) else (w_80.2, r_this_bytes, r_this_reg))))))))))) else (if (p3 &&& (63 : Int32)) ≤ (31 : Int32) then (if p1 = (138 : Int32) then (if p1 = (138 : Int32) then (q_let (f_X8_sign o_this (((upd r_this_reg (p2 / (16 : Int32)).toNatClampNeg ((r_this_reg (p2 / (16 : Int32)).toNatClampNeg) >>> ((p3 &&& (63 : Int32)) &&& 31))) (p2 / (16 : Int32)).toNatClampNeg).toInt64)) fun w_129 => (w_129, r_this_bytes, (upd r_this_reg (p2 / (16 : Int32)).toNatClampNeg ((r_this_reg (p2 / (16 : Int32)).toNatClampNeg) >>> ((p3 &&& (63 : Int32)) &&& 31))))) else (o_this, r_this_bytes, (upd r_this_reg (p2 / (16 : Int32)).toNatClampNeg ((r_this_reg (p2 / (16 : Int32)).toNatClampNeg) >>> ((p3 &&& (63 : Int32)) &&& 31))))) else (if (p3 &&& (63 : Int32)) ≤ (31 : Int32) then (if p1 = (136 : Int32) then (if p1 = (138 : Int32) then (q_let (f_X8_sign o_this (((upd r_this_reg (p2 / (16 : Int32)).toNatClampNeg (((r_this_reg (p2 / (16 : Int32)).toNatClampNeg).toUInt32 >>> ((p3 &&& (63 : Int32)).toUInt32 &&& Int32.toUInt32 31)).toInt32)) (p2 / (16 : Int32)).toNatClampNeg).toInt64)) fun w_121 => (w_121, r_this_bytes, (upd r_this_reg (p2 / (16 : Int32)).toNatClampNeg (((r_this_reg (p2 / (16 : Int32)).toNatClampNeg).toUInt32 >>> ((p3 &&& (63 : Int32)).toUInt32 &&& Int32.toUInt32 31)).toInt32)))) else (o_this, r_this_bytes, (upd r_this_reg (p2 / (16 : Int32)).toNatClampNeg (((r_this_reg (p2 / (16 : Int32)).toNatClampNeg).toUInt32 >>> ((p3 &&& (63 : Int32)).toUInt32 &&& Int32.toUInt32 31)).toInt32)))) else (if p1 = (138 : Int32) then (q_let (f_X8_sign o_this (((upd r_this_reg (p2 / (16 : Int32)).toNatClampNeg ((r_this_reg (p2 / (16 : Int32)).toNatClampNeg) <<< ((p3 &&& (63 : Int32)) &&& 31))) (p2 / (16 : Int32)).toNatClampNeg).toInt64)) fun w_117 => (w_117, r_this_bytes, (upd r_this_reg (p2 / (16 : Int32)).toNatClampNeg ((r_this_reg (p2 / (16 : Int32)).toNatClampNeg) <<< ((p3 &&& (63 : Int32)) &&& 31))))) else (o_this, r_this_bytes, (upd r_this_reg (p2 / (16 : Int32)).toNatClampNeg ((r_this_reg (p2 / (16 : Int32)).toNatClampNeg) <<< ((p3 &&& (63 : Int32)) &&& 31)))))) else (if p1 = (138 : Int32) then (q_let (f_X8_sign o_this (((upd r_this_reg (p2 / (16 : Int32)).toNatClampNeg 0) (p2 / (16 : Int32)).toNatClampNeg).toInt64)) fun w_125 => (w_125, r_this_bytes, (upd r_this_reg (p2 / (16 : Int32)).toNatClampNeg 0))) else (o_this, r_this_bytes, (upd r_this_reg (p2 / (16 : Int32)).toNatClampNeg 0))))) else (if p1 = (138 : Int32) then (if p1 = (138 : Int32) then (q_let (f_X8_sign o_this (((upd r_this_reg (p2 / (16 : Int32)).toNatClampNeg ((r_this_reg (p2 / (16 : Int32)).toNatClampNeg) >>> ((31 : Int32) &&& 31))) (p2 / (16 : Int32)).toNatClampNeg).toInt64)) fun w_148 => (w_148, r_this_bytes, (upd r_this_reg (p2 / (16 : Int32)).toNatClampNeg ((r_this_reg (p2 / (16 : Int32)).toNatClampNeg) >>> ((31 : Int32) &&& 31))))) else (o_this, r_this_bytes, (upd r_this_reg (p2 / (16 : Int32)).toNatClampNeg ((r_this_reg (p2 / (16 : Int32)).toNatClampNeg) >>> ((31 : Int32) &&& 31))))) else (if (p3 &&& (63 : Int32)) ≤ (31 : Int32) then (if p1 = (136 : Int32) then (if p1 = (138 : Int32) then (q_let (f_X8_sign o_this (((upd r_this_reg (p2 / (16 : Int32)).toNatClampNeg (((r_this_reg (p2 / (16 : Int32)).toNatClampNeg).toUInt32 >>> ((p3 &&& (63 : Int32)).toUInt32 &&& Int32.toUInt32 31)).toInt32)) (p2 / (16 : Int32)).toNatClampNeg).toInt64)) fun w_140 => (w_140, r_this_bytes, (upd r_this_reg (p2 / (16 : Int32)).toNatClampNeg (((r_this_reg (p2 / (16 : Int32)).toNatClampNeg).toUInt32 >>> ((p3 &&& (63 : Int32)).toUInt32 &&& Int32.toUInt32 31)).toInt32)))) else (o_this, r_this_bytes, (upd r_this_reg (p2 / (16 : Int32)).toNatClampNeg (((r_this_reg (p2 / (16 : Int32)).toNatClampNeg).toUInt32 >>> ((p3 &&& (63 : Int32)).toUInt32 &&& Int32.toUInt32 31)).toInt32)))) else (if p1 = (138 : Int32) then (q_let (f_X8_sign o_this (((upd r_this_reg (p2 / (16 : Int32)).toNatClampNeg ((r_this_reg (p2 / (16 : Int32)).toNatClampNeg) <<< ((p3 &&& (63 : Int32)) &&& 31))) (p2 / (16 : Int32)).toNatClampNeg).toInt64)) fun w_136 => (w_136, r_this_bytes, (upd r_this_reg (p2 / (16 : Int32)).toNatClampNeg ((r_this_reg (p2 / (16 : Int32)).toNatClampNeg) <<< ((p3 &&& (63 : Int32)) &&& 31))))) else (o_this, r_this_bytes, (upd r_this_reg (p2 / (16 : Int32)).toNatClampNeg ((r_this_reg (p2 / (16 : Int32)).toNatClampNeg) <<< ((p3 &&& (63 : Int32)) &&& 31)))))) else (if p1 = (138 : Int32) then (q_let (f_X8_sign o_this (((upd r_this_reg (p2 / (16 : Int32)).toNatClampNeg 0) (p2 / (16 : Int32)).toNatClampNeg).toInt64)) fun w_144 => (w_144, r_this_bytes, (upd r_this_reg (p2 / (16 : Int32)).toNatClampNeg 0))) else (o_this, r_this_bytes, (upd r_this_reg (p2 / (16 : Int32)).toNatClampNeg 0))))))))
def s_X8_doStored (o_this : Int32 × Int32 × Int32 × Int32 × Bool × Bool × Int32 × Int32 × Int32 × Int32 × Bool × Bool × Bool × Int32 × Int32 × Int32 × Int32 × Int32 × Int32 × Int32 × Int32 × Int32 × Int32 × Int32 × Int32) (r_this_bytes : Nat → Int32) (r_this_keys : Nat → Int32) (r_this_reg : Nat → Int32) (p1 : Int32) (p2 : Int32) (p3 : Int32) : Prop := (if p1 ≤ (135 : Int32) then (if p1 = (144 : Int32) then (if p1 = (144 : Int32) then s_X8_several o_this r_this_bytes r_this_keys r_this_reg true (p2 / (16 : Int32)) (((((p2 - p2 / (16 : Int32) * (16 : Int32)) - (p2 / (16 : Int32))) + (16 : Int32)) - (((p2 - p2 / (16 : Int32) * (16 : Int32)) - (p2 / (16 : Int32))) + (16 : Int32)) / (16 : Int32) * (16 : Int32)) + (1 : Int32)) p3 else s_X8_several o_this r_this_bytes r_this_keys r_this_reg false (p2 / (16 : Int32)) (((((p2 - p2 / (16 : Int32) * (16 : Int32)) - (p2 / (16 : Int32))) + (16 : Int32)) - (((p2 - p2 / (16 : Int32) * (16 : Int32)) - (p2 / (16 : Int32))) + (16 : Int32)) / (16 : Int32) * (16 : Int32)) + (1 : Int32)) p3) else (if p1 = (152 : Int32) then (if p1 = (144 : Int32) then s_X8_several o_this r_this_bytes r_this_keys r_this_reg true (p2 / (16 : Int32)) (((((p2 - p2 / (16 : Int32) * (16 : Int32)) - (p2 / (16 : Int32))) + (16 : Int32)) - (((p2 - p2 / (16 : Int32) * (16 : Int32)) - (p2 / (16 : Int32))) + (16 : Int32)) / (16 : Int32) * (16 : Int32)) + (1 : Int32)) p3 else s_X8_several o_this r_this_bytes r_this_keys r_this_reg false (p2 / (16 : Int32)) (((((p2 - p2 / (16 : Int32) * (16 : Int32)) - (p2 / (16 : Int32))) + (16 : Int32)) - (((p2 - p2 / (16 : Int32) * (16 : Int32)) - (p2 / (16 : Int32))) + (16 : Int32)) / (16 : Int32) * (16 : Int32)) + (1 : Int32)) p3) else (if p1 = (130 : Int32) then (s_X8_good o_this r_this_keys p3 8 8 false ∧ (q_let (f_X8_good o_this r_this_keys p3 8 8 false) fun w_46 => (if w_46.1 = true then s_X8_loadStatus r_this_bytes p3 else True))) else (if p1 = (156 : Int32) then s_X8_begin o_this r_this_bytes p2 else (if p1 = (157 : Int32) then True else (if p1 = (146 : Int32) then (s_X8_good o_this r_this_keys p3 1 1 true ∧ (q_let (f_X8_good o_this r_this_keys p3 1 1 true) fun w_14 => (if w_14.1 = true then s_X8_single w_14.2 r_this_bytes p1 p2 p3 else True))) else (if p1 = (148 : Int32) then (s_X8_good o_this r_this_keys p3 1 1 true ∧ (q_let (f_X8_good o_this r_this_keys p3 1 1 true) fun w_20 => (if w_20.1 = true then s_X8_single w_20.2 r_this_bytes p1 p2 p3 else True))) else (if p1 = (150 : Int32) then (s_X8_good o_this r_this_keys p3 1 1 true ∧ (q_let (f_X8_good o_this r_this_keys p3 1 1 true) fun w_31 => (if w_31.1 = true then s_X8_single w_31.2 r_this_bytes p1 p2 p3 else True))) else (s_X8_good o_this r_this_keys p3 1 1 false ∧ (q_let (f_X8_good o_this r_this_keys p3 1 1 false) fun w_26 => (if w_26.1 = true then s_X8_single w_26.2 r_this_bytes p1 p2 p3 else True))))))))))) else (if (139 : Int32) ≤ p1 then (if p1 = (144 : Int32) then (if p1 = (144 : Int32) then s_X8_several o_this r_this_bytes r_this_keys r_this_reg true (p2 / (16 : Int32)) (((((p2 - p2 / (16 : Int32) * (16 : Int32)) - (p2 / (16 : Int32))) + (16 : Int32)) - (((p2 - p2 / (16 : Int32) * (16 : Int32)) - (p2 / (16 : Int32))) + (16 : Int32)) / (16 : Int32) * (16 : Int32)) + (1 : Int32)) p3 else s_X8_several o_this r_this_bytes r_this_keys r_this_reg false (p2 / (16 : Int32)) (((((p2 - p2 / (16 : Int32) * (16 : Int32)) - (p2 / (16 : Int32))) + (16 : Int32)) - (((p2 - p2 / (16 : Int32) * (16 : Int32)) - (p2 / (16 : Int32))) + (16 : Int32)) / (16 : Int32) * (16 : Int32)) + (1 : Int32)) p3) else (if p1 = (152 : Int32) then (if p1 = (144 : Int32) then s_X8_several o_this r_this_bytes r_this_keys r_this_reg true (p2 / (16 : Int32)) (((((p2 - p2 / (16 : Int32) * (16 : Int32)) - (p2 / (16 : Int32))) + (16 : Int32)) - (((p2 - p2 / (16 : Int32) * (16 : Int32)) - (p2 / (16 : Int32))) + (16 : Int32)) / (16 : Int32) * (16 : Int32)) + (1 : Int32)) p3 else s_X8_several o_this r_this_bytes r_this_keys r_this_reg false (p2 / (16 : Int32)) (((((p2 - p2 / (16 : Int32) * (16 : Int32)) - (p2 / (16 : Int32))) + (16 : Int32)) - (((p2 - p2 / (16 : Int32) * (16 : Int32)) - (p2 / (16 : Int32))) + (16 : Int32)) / (16 : Int32) * (16 : Int32)) + (1 : Int32)) p3) else (if p1 = (130 : Int32) then (s_X8_good o_this r_this_keys p3 8 8 false ∧ (q_let (f_X8_good o_this r_this_keys p3 8 8 false) fun w_100 => (if w_100.1 = true then s_X8_loadStatus r_this_bytes p3 else True))) else (if p1 = (156 : Int32) then s_X8_begin o_this r_this_bytes p2 else (if p1 = (157 : Int32) then True else (if p1 = (146 : Int32) then (s_X8_good o_this r_this_keys p3 1 1 true ∧ (q_let (f_X8_good o_this r_this_keys p3 1 1 true) fun w_68 => (if w_68.1 = true then s_X8_single w_68.2 r_this_bytes p1 p2 p3 else True))) else (if p1 = (148 : Int32) then (s_X8_good o_this r_this_keys p3 1 1 true ∧ (q_let (f_X8_good o_this r_this_keys p3 1 1 true) fun w_74 => (if w_74.1 = true then s_X8_single w_74.2 r_this_bytes p1 p2 p3 else True))) else (if p1 = (150 : Int32) then (s_X8_good o_this r_this_keys p3 1 1 true ∧ (q_let (f_X8_good o_this r_this_keys p3 1 1 true) fun w_85 => (if w_85.1 = true then s_X8_single w_85.2 r_this_bytes p1 p2 p3 else True))) else (s_X8_good o_this r_this_keys p3 1 1 false ∧ (q_let (f_X8_good o_this r_this_keys p3 1 1 false) fun w_80 => (if w_80.1 = true then s_X8_single w_80.2 r_this_bytes p1 p2 p3 else True))))))))))) else (vp_in (p2 / (16 : Int32)) 16 ∧ (if (p3 &&& (63 : Int32)) ≤ (31 : Int32) then (if p1 = (138 : Int32) then (vp_in (p2 / (16 : Int32)) 16 ∧ (if p1 = (138 : Int32) then vp_in (p2 / (16 : Int32)) 16 else True)) else (if (p3 &&& (63 : Int32)) ≤ (31 : Int32) then (if p1 = (136 : Int32) then (vp_in (p2 / (16 : Int32)) 16 ∧ (if p1 = (138 : Int32) then vp_in (p2 / (16 : Int32)) 16 else True)) else (vp_in (p2 / (16 : Int32)) 16 ∧ (if p1 = (138 : Int32) then vp_in (p2 / (16 : Int32)) 16 else True))) else (vp_in (p2 / (16 : Int32)) 16 ∧ (if p1 = (138 : Int32) then vp_in (p2 / (16 : Int32)) 16 else True)))) else (if p1 = (138 : Int32) then (vp_in (p2 / (16 : Int32)) 16 ∧ (if p1 = (138 : Int32) then vp_in (p2 / (16 : Int32)) 16 else True)) else (if (p3 &&& (63 : Int32)) ≤ (31 : Int32) then (if p1 = (136 : Int32) then (vp_in (p2 / (16 : Int32)) 16 ∧ (if p1 = (138 : Int32) then vp_in (p2 / (16 : Int32)) 16 else True)) else (vp_in (p2 / (16 : Int32)) 16 ∧ (if p1 = (138 : Int32) then vp_in (p2 / (16 : Int32)) 16 else True))) else (vp_in (p2 / (16 : Int32)) 16 ∧ (if p1 = (138 : Int32) then vp_in (p2 / (16 : Int32)) 16 else True))))))))
set_option linter.all false in
set_option maxHeartbeats 4000000 in
set_option maxRecDepth 100000 in
theorem c_X8_doStored (l : Launch) (D : va_G) (a_this a_this_bytes a_this_keys a_this_reg a_this_card a_this_filled a_this_taken a_this_line a_this_one a_this_two : Nat) (k_this_bytes k_this_keys k_this_reg : ClassId) (o_this : Int32 × Int32 × Int32 × Int32 × Bool × Bool × Int32 × Int32 × Int32 × Int32 × Bool × Bool × Bool × Int32 × Int32 × Int32 × Int32 × Int32 × Int32 × Int32 × Int32 × Int32 × Int32 × Int32 × Int32) (r_this_bytes : Nat → Int32) (r_this_keys : Nat → Int32) (r_this_reg : Nat → Int32) (p1 : Int32) (p2 : Int32) (p3 : Int32) (hs : s_X8_doStored o_this r_this_bytes r_this_keys r_this_reg p1 p2 p3) : CtV l yX8_doStored cX8_doStored 8 none { frames := 3, cells := 0, slots := 0, locals := 73 } D [.ref a_this, .int p1, .int p2, .int p3] [(a_this, oX8 a_this_bytes a_this_keys a_this_reg a_this_card a_this_filled a_this_taken a_this_line a_this_one a_this_two o_this), (a_this_bytes, .inl (k_this_bytes, 2048, .inl r_this_bytes)), (a_this_keys, .inl (k_this_keys, 8, .inl r_this_keys)), (a_this_reg, .inl (k_this_reg, 16, .inl r_this_reg))] [(k_this_bytes, .int), (k_this_keys, .int), (k_this_reg, .int)] (fun (u : (Int32 × Int32 × Int32 × Int32 × Bool × Bool × Int32 × Int32 × Int32 × Int32 × Bool × Bool × Bool × Int32 × Int32 × Int32 × Int32 × Int32 × Int32 × Int32 × Int32 × Int32 × Int32 × Int32 × Int32) × (Nat → Int32) × (Nat → Int32)) => f_X8_doStored o_this r_this_bytes r_this_keys r_this_reg p1 p2 p3 = u) (fun u => [(a_this, oX8 a_this_bytes a_this_keys a_this_reg a_this_card a_this_filled a_this_taken a_this_line a_this_one a_this_two u.1), (a_this_bytes, .inl (k_this_bytes, 2048, .inl u.2.1)), (a_this_keys, .inl (k_this_keys, 8, .inl r_this_keys)), (a_this_reg, .inl (k_this_reg, 16, .inl u.2.2))]) := by
  refine CtV.of (by decide) (Nat.le_of_ble_eq_true rfl) ?_
  intro p e s m below meth c A ls Q hE hP hD hS hl hQ
  obtain ⟨hx, hb, hml, hown, ht, hN, hK, hA⟩ := hE
  have hown : s.vm.findClass RX8 = some m.cls := hown
  have hl : lv_has ls 8 [(0, .ref a_this), (1, .int p1), (2, .int p2), (3, .int p3)] := hl
  obtain ⟨F, hF⟩ : ∃ F, f_X8_doStored o_this r_this_bytes r_this_keys r_this_reg p1 p2 p3 = F := ⟨_, rfl⟩
  rw [hF] at hQ
  unfold f_X8_doStored at hF
  unfold s_X8_doStored at hs
  refine lv_iload_n hx hb dX8_doStored_0 rfl (lv_at hl 2 rfl) ?_
  refine lv_bipush (v := 16) hx hb dX8_doStored_1 (by decide) ?_
  refine lv_idiv hx hb dX8_doStored_3 (by decide) ?_
  refine lv_istore (lv' := [(4, .int (p2 / (16 : Int32))), (0, .ref a_this), (1, .int p1), (2, .int p2), (3, .int p3)]) hx hb dX8_doStored_4 hl (by decide) rfl (fun ls hl => ?_)
  refine lv_iload_n hx hb dX8_doStored_6 rfl (lv_at hl 4 rfl) ?_
  refine lv_bipush (v := 63) hx hb dX8_doStored_7 (by decide) ?_
  refine lv_iand hx hb dX8_doStored_9 ?_
  refine lv_istore (lv' := [(5, .int (p3 &&& (63 : Int32))), (4, .int (p2 / (16 : Int32))), (0, .ref a_this), (1, .int p1), (2, .int p2), (3, .int p3)]) hx hb dX8_doStored_10 hl (by decide) rfl (fun ls hl => ?_)
  refine lv_iload_n hx hb dX8_doStored_12 rfl (lv_at hl 3 rfl) ?_
  refine lv_sipush (v := 135) hx hb dX8_doStored_13 (by decide) ?_
  refine lv_icmp_le (tgt := 126) hx hb dX8_doStored_16 (by decide) (fun c_1 => ?_) (fun c_1 => ?_)
  · skip
    rw [if_pos c_1] at hF
    rw [if_pos c_1] at hs
    refine lv_iload_n hx hb dX8_doStored_126 rfl (lv_at hl 3 rfl) ?_
    refine lv_sipush (v := 144) hx hb dX8_doStored_127 (by decide) ?_
    refine lv_icmp_eq (tgt := 140) hx hb dX8_doStored_130 (by decide) (fun c_2 => ?_) (fun c_2 => ?_)
    · skip
      rw [if_pos c_2] at hF
      rw [if_pos c_2] at hs
      refine lv_aload_n hx hb dX8_doStored_140 rfl (lv_at hl 2 rfl) ?_
      refine lv_iload_n hx hb dX8_doStored_141 rfl (lv_at hl 3 rfl) ?_
      refine lv_sipush (v := 144) hx hb dX8_doStored_142 (by decide) ?_
      refine lv_icmp_ne (tgt := 152) hx hb dX8_doStored_145 (by decide) (fun c_3 => ?_) (fun c_3 => ?_)
      · skip
        rw [if_neg c_3] at hF
        rw [if_neg c_3] at hs
        refine lv_iconst (v := 0) hx hb dX8_doStored_152 (by decide) ?_
        refine lv_iload hx hb dX8_doStored_153 (lv_at hl 1 rfl) ?_
        refine lv_iload_n hx hb dX8_doStored_155 rfl (lv_at hl 4 rfl) ?_
        refine lv_bipush (v := 16) hx hb dX8_doStored_156 (by decide) ?_
        refine lv_irem hx hb dX8_doStored_158 (by decide) ?_
        refine lv_iload hx hb dX8_doStored_159 (lv_at hl 1 rfl) ?_
        refine lv_isub hx hb dX8_doStored_161 ?_
        refine lv_bipush (v := 16) hx hb dX8_doStored_162 (by decide) ?_
        refine lv_iadd hx hb dX8_doStored_164 ?_
        refine lv_bipush (v := 16) hx hb dX8_doStored_165 (by decide) ?_
        refine lv_irem hx hb dX8_doStored_167 (by decide) ?_
        refine lv_iconst (v := 1) hx hb dX8_doStored_168 (by decide) ?_
        refine lv_iadd hx hb dX8_doStored_169 ?_
        refine lv_iload_n hx hb dX8_doStored_170 rfl (lv_at hl 5 rfl) ?_
        have hi_4 := hs
        refine q_Vv (rest := []) (c_X8_several l D a_this a_this_bytes a_this_keys a_this_reg a_this_card a_this_filled a_this_taken a_this_line a_this_one a_this_two k_this_bytes k_this_keys k_this_reg o_this r_this_bytes r_this_keys r_this_reg false (p2 / (16 : Int32)) (((((p2 - p2 / (16 : Int32) * (16 : Int32)) - (p2 / (16 : Int32))) + (16 : Int32)) - (((p2 - p2 / (16 : Int32) * (16 : Int32)) - (p2 / (16 : Int32))) + (16 : Int32)) / (16 : Int32) * (16 : Int32)) + (1 : Int32)) p3 hi_4) cv_X8_several hx hb hml hown ht hN hK hA hP hD hS hl.1 (km_X8_186) ⟨Nat.le_of_ble_eq_true rfl, Nat.le_of_ble_eq_true rfl⟩ rfl rfl [0, 1, 2, 3] (by decide) rfl [0, 1, 2] rfl (fun _ => rfl) (ci := 8) rfl rfl rfl rfl rfl (Nat.le_of_ble_eq_true rfl) dX8_doStored_171 ⟨Nat.zero_le _, Nat.zero_le _⟩ (fun w_5 H locs hw hP hD hS => ?_)
        have hP : va_P D vwCl [(a_this, oX8 a_this_bytes a_this_keys a_this_reg a_this_card a_this_filled a_this_taken a_this_line a_this_one a_this_two w_5.1), (a_this_bytes, .inl (k_this_bytes, 2048, .inl w_5.2.1)), (a_this_keys, .inl (k_this_keys, 8, .inl r_this_keys)), (a_this_reg, .inl (k_this_reg, 16, .inl w_5.2.2))] H := hP
        have hD : va_D A [(a_this, oX8 a_this_bytes a_this_keys a_this_reg a_this_card a_this_filled a_this_taken a_this_line a_this_one a_this_two w_5.1), (a_this_bytes, .inl (k_this_bytes, 2048, .inl w_5.2.1)), (a_this_keys, .inl (k_this_keys, 8, .inl r_this_keys)), (a_this_reg, .inl (k_this_reg, 16, .inl w_5.2.2))] := hD
        rw [q_let_of hw] at hF
        refine lv_goto (tgt := 323) hx hb dX8_doStored_174 (by decide) ?_
        exact hQ (w_5.1, w_5.2.1, w_5.2.2) _ _ _ _ dX8_doStored_323 hF.symm hP hD hS
      · skip
        rw [if_pos c_3] at hF
        rw [if_pos c_3] at hs
        refine lv_iconst (v := 1) hx hb dX8_doStored_148 (by decide) ?_
        refine lv_goto (tgt := 153) hx hb dX8_doStored_149 (by decide) ?_
        refine lv_iload hx hb dX8_doStored_153 (lv_at hl 1 rfl) ?_
        refine lv_iload_n hx hb dX8_doStored_155 rfl (lv_at hl 4 rfl) ?_
        refine lv_bipush (v := 16) hx hb dX8_doStored_156 (by decide) ?_
        refine lv_irem hx hb dX8_doStored_158 (by decide) ?_
        refine lv_iload hx hb dX8_doStored_159 (lv_at hl 1 rfl) ?_
        refine lv_isub hx hb dX8_doStored_161 ?_
        refine lv_bipush (v := 16) hx hb dX8_doStored_162 (by decide) ?_
        refine lv_iadd hx hb dX8_doStored_164 ?_
        refine lv_bipush (v := 16) hx hb dX8_doStored_165 (by decide) ?_
        refine lv_irem hx hb dX8_doStored_167 (by decide) ?_
        refine lv_iconst (v := 1) hx hb dX8_doStored_168 (by decide) ?_
        refine lv_iadd hx hb dX8_doStored_169 ?_
        refine lv_iload_n hx hb dX8_doStored_170 rfl (lv_at hl 5 rfl) ?_
        have hi_6 := hs
        refine q_Vv (rest := []) (c_X8_several l D a_this a_this_bytes a_this_keys a_this_reg a_this_card a_this_filled a_this_taken a_this_line a_this_one a_this_two k_this_bytes k_this_keys k_this_reg o_this r_this_bytes r_this_keys r_this_reg true (p2 / (16 : Int32)) (((((p2 - p2 / (16 : Int32) * (16 : Int32)) - (p2 / (16 : Int32))) + (16 : Int32)) - (((p2 - p2 / (16 : Int32) * (16 : Int32)) - (p2 / (16 : Int32))) + (16 : Int32)) / (16 : Int32) * (16 : Int32)) + (1 : Int32)) p3 hi_6) cv_X8_several hx hb hml hown ht hN hK hA hP hD hS hl.1 (km_X8_186) ⟨Nat.le_of_ble_eq_true rfl, Nat.le_of_ble_eq_true rfl⟩ rfl rfl [0, 1, 2, 3] (by decide) rfl [0, 1, 2] rfl (fun _ => rfl) (ci := 8) rfl rfl rfl rfl rfl (Nat.le_of_ble_eq_true rfl) dX8_doStored_171 ⟨Nat.zero_le _, Nat.zero_le _⟩ (fun w_7 H locs hw hP hD hS => ?_)
        have hP : va_P D vwCl [(a_this, oX8 a_this_bytes a_this_keys a_this_reg a_this_card a_this_filled a_this_taken a_this_line a_this_one a_this_two w_7.1), (a_this_bytes, .inl (k_this_bytes, 2048, .inl w_7.2.1)), (a_this_keys, .inl (k_this_keys, 8, .inl r_this_keys)), (a_this_reg, .inl (k_this_reg, 16, .inl w_7.2.2))] H := hP
        have hD : va_D A [(a_this, oX8 a_this_bytes a_this_keys a_this_reg a_this_card a_this_filled a_this_taken a_this_line a_this_one a_this_two w_7.1), (a_this_bytes, .inl (k_this_bytes, 2048, .inl w_7.2.1)), (a_this_keys, .inl (k_this_keys, 8, .inl r_this_keys)), (a_this_reg, .inl (k_this_reg, 16, .inl w_7.2.2))] := hD
        rw [q_let_of hw] at hF
        refine lv_goto (tgt := 323) hx hb dX8_doStored_174 (by decide) ?_
        exact hQ (w_7.1, w_7.2.1, w_7.2.2) _ _ _ _ dX8_doStored_323 hF.symm hP hD hS
    · skip
      rw [if_neg c_2] at hF
      rw [if_neg c_2] at hs
      refine lv_iload_n hx hb dX8_doStored_133 rfl (lv_at hl 3 rfl) ?_
      refine lv_sipush (v := 152) hx hb dX8_doStored_134 (by decide) ?_
      refine lv_icmp_ne (tgt := 177) hx hb dX8_doStored_137 (by decide) (fun c_8 => ?_) (fun c_8 => ?_)
      · skip
        rw [if_neg c_8] at hF
        rw [if_neg c_8] at hs
        refine lv_iload_n hx hb dX8_doStored_177 rfl (lv_at hl 3 rfl) ?_
        refine lv_sipush (v := 130) hx hb dX8_doStored_178 (by decide) ?_
        refine lv_icmp_ne (tgt := 205) hx hb dX8_doStored_181 (by decide) (fun c_9 => ?_) (fun c_9 => ?_)
        · skip
          rw [if_neg c_9] at hF
          rw [if_neg c_9] at hs
          refine lv_iload_n hx hb dX8_doStored_205 rfl (lv_at hl 3 rfl) ?_
          refine lv_sipush (v := 156) hx hb dX8_doStored_206 (by decide) ?_
          refine lv_icmp_ne (tgt := 220) hx hb dX8_doStored_209 (by decide) (fun c_10 => ?_) (fun c_10 => ?_)
          · skip
            rw [if_neg c_10] at hF
            rw [if_neg c_10] at hs
            refine lv_iload_n hx hb dX8_doStored_220 rfl (lv_at hl 3 rfl) ?_
            refine lv_sipush (v := 157) hx hb dX8_doStored_221 (by decide) ?_
            refine lv_icmp_ne (tgt := 280) hx hb dX8_doStored_224 (by decide) (fun c_11 => ?_) (fun c_11 => ?_)
            · skip
              rw [if_neg c_11] at hF
              rw [if_neg c_11] at hs
              refine lv_aload_n hx hb dX8_doStored_280 rfl (lv_at hl 2 rfl) ?_
              refine lv_iload_n hx hb dX8_doStored_281 rfl (lv_at hl 5 rfl) ?_
              refine lv_iconst (v := 1) hx hb dX8_doStored_282 (by decide) ?_
              refine lv_iconst (v := 1) hx hb dX8_doStored_283 (by decide) ?_
              refine lv_iload_n hx hb dX8_doStored_284 rfl (lv_at hl 3 rfl) ?_
              refine lv_sipush (v := 146) hx hb dX8_doStored_285 (by decide) ?_
              refine lv_icmp_eq (tgt := 305) hx hb dX8_doStored_288 (by decide) (fun c_12 => ?_) (fun c_12 => ?_)
              · skip
                rw [if_pos c_12] at hF
                rw [if_pos c_12] at hs
                refine lv_iconst (v := 1) hx hb dX8_doStored_305 (by decide) ?_
                refine lv_goto (tgt := 310) hx hb dX8_doStored_306 (by decide) ?_
                obtain ⟨hi_13, hs⟩ := hs
                refine q_Vi (rest := []) (c_X8_good l D a_this a_this_keys a_this_bytes a_this_reg a_this_card a_this_filled a_this_taken a_this_line a_this_one a_this_two k_this_keys o_this r_this_keys p3 1 1 true hi_13) cv_X8_good hx hb hml hown ht hN hK hA hP hD hS hl.1 (km_X8_158) ⟨Nat.le_of_ble_eq_true rfl, Nat.le_of_ble_eq_true rfl⟩ rfl rfl [0, 2] (by decide) rfl [1] rfl (fun _ => rfl) (ci := 8) rfl rfl rfl rfl rfl (Nat.le_of_ble_eq_true rfl) dX8_doStored_310 ⟨Nat.zero_le _, Nat.zero_le _⟩ (fun r w_14 H locs hw hP hD hS => ?_)
                obtain ⟨hw, hr⟩ := hw
                subst hr
                have hP : va_P D vwCl [(a_this, oX8 a_this_bytes a_this_keys a_this_reg a_this_card a_this_filled a_this_taken a_this_line a_this_one a_this_two w_14.2), (a_this_bytes, .inl (k_this_bytes, 2048, .inl r_this_bytes)), (a_this_keys, .inl (k_this_keys, 8, .inl r_this_keys)), (a_this_reg, .inl (k_this_reg, 16, .inl r_this_reg))] H := hP
                have hD : va_D A [(a_this, oX8 a_this_bytes a_this_keys a_this_reg a_this_card a_this_filled a_this_taken a_this_line a_this_one a_this_two w_14.2), (a_this_bytes, .inl (k_this_bytes, 2048, .inl r_this_bytes)), (a_this_keys, .inl (k_this_keys, 8, .inl r_this_keys)), (a_this_reg, .inl (k_this_reg, 16, .inl r_this_reg))] := hD
                rw [q_let_of hw] at hF
                rw [q_let_of hw] at hs
                refine lv_if_eq (tgt := 323) hx hb dX8_doStored_313 (by decide) (fun c_15 => ?_) (fun c_15 => ?_)
                · have c_15 : ¬ w_14.1 = true := by rw [(bI_eq0 _).mp c_15]; decide
                  rw [if_neg c_15] at hF
                  rw [if_neg c_15] at hs
                  exact hQ (w_14.2, r_this_bytes, r_this_reg) _ _ _ _ dX8_doStored_323 hF.symm hP hD hS
                · have c_15 := (bI_ne0 _).mp c_15
                  rw [if_pos c_15] at hF
                  rw [if_pos c_15] at hs
                  refine lv_aload_n hx hb dX8_doStored_316 rfl (lv_at hl 2 rfl) ?_
                  refine lv_iload_n hx hb dX8_doStored_317 rfl (lv_at hl 3 rfl) ?_
                  refine lv_iload_n hx hb dX8_doStored_318 rfl (lv_at hl 4 rfl) ?_
                  refine lv_iload_n hx hb dX8_doStored_319 rfl (lv_at hl 5 rfl) ?_
                  have hi_16 := hs
                  refine q_Vv (rest := []) (c_X8_single l D a_this a_this_bytes a_this_keys a_this_reg a_this_card a_this_filled a_this_taken a_this_line a_this_one a_this_two k_this_bytes w_14.2 r_this_bytes p1 p2 p3 hi_16) cv_X8_single hx hb hml hown ht hN hK hA hP hD hS hl.1 (km_X8_196) ⟨Nat.le_of_ble_eq_true rfl, Nat.le_of_ble_eq_true rfl⟩ rfl rfl [0, 1] (by decide) rfl [0] rfl (fun _ => rfl) (ci := 8) rfl rfl rfl rfl rfl (Nat.le_of_ble_eq_true rfl) dX8_doStored_320 ⟨Nat.zero_le _, Nat.zero_le _⟩ (fun w_17 H locs hw hP hD hS => ?_)
                  have hP : va_P D vwCl [(a_this, oX8 a_this_bytes a_this_keys a_this_reg a_this_card a_this_filled a_this_taken a_this_line a_this_one a_this_two w_17.1), (a_this_bytes, .inl (k_this_bytes, 2048, .inl w_17.2)), (a_this_keys, .inl (k_this_keys, 8, .inl r_this_keys)), (a_this_reg, .inl (k_this_reg, 16, .inl r_this_reg))] H := hP
                  have hD : va_D A [(a_this, oX8 a_this_bytes a_this_keys a_this_reg a_this_card a_this_filled a_this_taken a_this_line a_this_one a_this_two w_17.1), (a_this_bytes, .inl (k_this_bytes, 2048, .inl w_17.2)), (a_this_keys, .inl (k_this_keys, 8, .inl r_this_keys)), (a_this_reg, .inl (k_this_reg, 16, .inl r_this_reg))] := hD
                  rw [q_let_of hw] at hF
                  exact hQ (w_17.1, w_17.2, r_this_reg) _ _ _ _ dX8_doStored_323 hF.symm hP hD hS
              · skip
                rw [if_neg c_12] at hF
                rw [if_neg c_12] at hs
                refine lv_iload_n hx hb dX8_doStored_291 rfl (lv_at hl 3 rfl) ?_
                refine lv_sipush (v := 148) hx hb dX8_doStored_292 (by decide) ?_
                refine lv_icmp_eq (tgt := 305) hx hb dX8_doStored_295 (by decide) (fun c_18 => ?_) (fun c_18 => ?_)
                · skip
                  rw [if_pos c_18] at hF
                  rw [if_pos c_18] at hs
                  refine lv_iconst (v := 1) hx hb dX8_doStored_305 (by decide) ?_
                  refine lv_goto (tgt := 310) hx hb dX8_doStored_306 (by decide) ?_
                  obtain ⟨hi_19, hs⟩ := hs
                  refine q_Vi (rest := []) (c_X8_good l D a_this a_this_keys a_this_bytes a_this_reg a_this_card a_this_filled a_this_taken a_this_line a_this_one a_this_two k_this_keys o_this r_this_keys p3 1 1 true hi_19) cv_X8_good hx hb hml hown ht hN hK hA hP hD hS hl.1 (km_X8_158) ⟨Nat.le_of_ble_eq_true rfl, Nat.le_of_ble_eq_true rfl⟩ rfl rfl [0, 2] (by decide) rfl [1] rfl (fun _ => rfl) (ci := 8) rfl rfl rfl rfl rfl (Nat.le_of_ble_eq_true rfl) dX8_doStored_310 ⟨Nat.zero_le _, Nat.zero_le _⟩ (fun r w_20 H locs hw hP hD hS => ?_)
                  obtain ⟨hw, hr⟩ := hw
                  subst hr
                  have hP : va_P D vwCl [(a_this, oX8 a_this_bytes a_this_keys a_this_reg a_this_card a_this_filled a_this_taken a_this_line a_this_one a_this_two w_20.2), (a_this_bytes, .inl (k_this_bytes, 2048, .inl r_this_bytes)), (a_this_keys, .inl (k_this_keys, 8, .inl r_this_keys)), (a_this_reg, .inl (k_this_reg, 16, .inl r_this_reg))] H := hP
                  have hD : va_D A [(a_this, oX8 a_this_bytes a_this_keys a_this_reg a_this_card a_this_filled a_this_taken a_this_line a_this_one a_this_two w_20.2), (a_this_bytes, .inl (k_this_bytes, 2048, .inl r_this_bytes)), (a_this_keys, .inl (k_this_keys, 8, .inl r_this_keys)), (a_this_reg, .inl (k_this_reg, 16, .inl r_this_reg))] := hD
                  rw [q_let_of hw] at hF
                  rw [q_let_of hw] at hs
                  refine lv_if_eq (tgt := 323) hx hb dX8_doStored_313 (by decide) (fun c_21 => ?_) (fun c_21 => ?_)
                  · have c_21 : ¬ w_20.1 = true := by rw [(bI_eq0 _).mp c_21]; decide
                    rw [if_neg c_21] at hF
                    rw [if_neg c_21] at hs
                    exact hQ (w_20.2, r_this_bytes, r_this_reg) _ _ _ _ dX8_doStored_323 hF.symm hP hD hS
                  · have c_21 := (bI_ne0 _).mp c_21
                    rw [if_pos c_21] at hF
                    rw [if_pos c_21] at hs
                    refine lv_aload_n hx hb dX8_doStored_316 rfl (lv_at hl 2 rfl) ?_
                    refine lv_iload_n hx hb dX8_doStored_317 rfl (lv_at hl 3 rfl) ?_
                    refine lv_iload_n hx hb dX8_doStored_318 rfl (lv_at hl 4 rfl) ?_
                    refine lv_iload_n hx hb dX8_doStored_319 rfl (lv_at hl 5 rfl) ?_
                    have hi_22 := hs
                    refine q_Vv (rest := []) (c_X8_single l D a_this a_this_bytes a_this_keys a_this_reg a_this_card a_this_filled a_this_taken a_this_line a_this_one a_this_two k_this_bytes w_20.2 r_this_bytes p1 p2 p3 hi_22) cv_X8_single hx hb hml hown ht hN hK hA hP hD hS hl.1 (km_X8_196) ⟨Nat.le_of_ble_eq_true rfl, Nat.le_of_ble_eq_true rfl⟩ rfl rfl [0, 1] (by decide) rfl [0] rfl (fun _ => rfl) (ci := 8) rfl rfl rfl rfl rfl (Nat.le_of_ble_eq_true rfl) dX8_doStored_320 ⟨Nat.zero_le _, Nat.zero_le _⟩ (fun w_23 H locs hw hP hD hS => ?_)
                    have hP : va_P D vwCl [(a_this, oX8 a_this_bytes a_this_keys a_this_reg a_this_card a_this_filled a_this_taken a_this_line a_this_one a_this_two w_23.1), (a_this_bytes, .inl (k_this_bytes, 2048, .inl w_23.2)), (a_this_keys, .inl (k_this_keys, 8, .inl r_this_keys)), (a_this_reg, .inl (k_this_reg, 16, .inl r_this_reg))] H := hP
                    have hD : va_D A [(a_this, oX8 a_this_bytes a_this_keys a_this_reg a_this_card a_this_filled a_this_taken a_this_line a_this_one a_this_two w_23.1), (a_this_bytes, .inl (k_this_bytes, 2048, .inl w_23.2)), (a_this_keys, .inl (k_this_keys, 8, .inl r_this_keys)), (a_this_reg, .inl (k_this_reg, 16, .inl r_this_reg))] := hD
                    rw [q_let_of hw] at hF
                    exact hQ (w_23.1, w_23.2, r_this_reg) _ _ _ _ dX8_doStored_323 hF.symm hP hD hS
                · skip
                  rw [if_neg c_18] at hF
                  rw [if_neg c_18] at hs
                  refine lv_iload_n hx hb dX8_doStored_298 rfl (lv_at hl 3 rfl) ?_
                  refine lv_sipush (v := 150) hx hb dX8_doStored_299 (by decide) ?_
                  refine lv_icmp_ne (tgt := 309) hx hb dX8_doStored_302 (by decide) (fun c_24 => ?_) (fun c_24 => ?_)
                  · skip
                    rw [if_neg c_24] at hF
                    rw [if_neg c_24] at hs
                    refine lv_iconst (v := 0) hx hb dX8_doStored_309 (by decide) ?_
                    obtain ⟨hi_25, hs⟩ := hs
                    refine q_Vi (rest := []) (c_X8_good l D a_this a_this_keys a_this_bytes a_this_reg a_this_card a_this_filled a_this_taken a_this_line a_this_one a_this_two k_this_keys o_this r_this_keys p3 1 1 false hi_25) cv_X8_good hx hb hml hown ht hN hK hA hP hD hS hl.1 (km_X8_158) ⟨Nat.le_of_ble_eq_true rfl, Nat.le_of_ble_eq_true rfl⟩ rfl rfl [0, 2] (by decide) rfl [1] rfl (fun _ => rfl) (ci := 8) rfl rfl rfl rfl rfl (Nat.le_of_ble_eq_true rfl) dX8_doStored_310 ⟨Nat.zero_le _, Nat.zero_le _⟩ (fun r w_26 H locs hw hP hD hS => ?_)
                    obtain ⟨hw, hr⟩ := hw
                    subst hr
                    have hP : va_P D vwCl [(a_this, oX8 a_this_bytes a_this_keys a_this_reg a_this_card a_this_filled a_this_taken a_this_line a_this_one a_this_two w_26.2), (a_this_bytes, .inl (k_this_bytes, 2048, .inl r_this_bytes)), (a_this_keys, .inl (k_this_keys, 8, .inl r_this_keys)), (a_this_reg, .inl (k_this_reg, 16, .inl r_this_reg))] H := hP
                    have hD : va_D A [(a_this, oX8 a_this_bytes a_this_keys a_this_reg a_this_card a_this_filled a_this_taken a_this_line a_this_one a_this_two w_26.2), (a_this_bytes, .inl (k_this_bytes, 2048, .inl r_this_bytes)), (a_this_keys, .inl (k_this_keys, 8, .inl r_this_keys)), (a_this_reg, .inl (k_this_reg, 16, .inl r_this_reg))] := hD
                    rw [q_let_of hw] at hF
                    rw [q_let_of hw] at hs
                    refine lv_if_eq (tgt := 323) hx hb dX8_doStored_313 (by decide) (fun c_27 => ?_) (fun c_27 => ?_)
                    · have c_27 : ¬ w_26.1 = true := by rw [(bI_eq0 _).mp c_27]; decide
                      rw [if_neg c_27] at hF
                      rw [if_neg c_27] at hs
                      exact hQ (w_26.2, r_this_bytes, r_this_reg) _ _ _ _ dX8_doStored_323 hF.symm hP hD hS
                    · have c_27 := (bI_ne0 _).mp c_27
                      rw [if_pos c_27] at hF
                      rw [if_pos c_27] at hs
                      refine lv_aload_n hx hb dX8_doStored_316 rfl (lv_at hl 2 rfl) ?_
                      refine lv_iload_n hx hb dX8_doStored_317 rfl (lv_at hl 3 rfl) ?_
                      refine lv_iload_n hx hb dX8_doStored_318 rfl (lv_at hl 4 rfl) ?_
                      refine lv_iload_n hx hb dX8_doStored_319 rfl (lv_at hl 5 rfl) ?_
                      have hi_28 := hs
                      refine q_Vv (rest := []) (c_X8_single l D a_this a_this_bytes a_this_keys a_this_reg a_this_card a_this_filled a_this_taken a_this_line a_this_one a_this_two k_this_bytes w_26.2 r_this_bytes p1 p2 p3 hi_28) cv_X8_single hx hb hml hown ht hN hK hA hP hD hS hl.1 (km_X8_196) ⟨Nat.le_of_ble_eq_true rfl, Nat.le_of_ble_eq_true rfl⟩ rfl rfl [0, 1] (by decide) rfl [0] rfl (fun _ => rfl) (ci := 8) rfl rfl rfl rfl rfl (Nat.le_of_ble_eq_true rfl) dX8_doStored_320 ⟨Nat.zero_le _, Nat.zero_le _⟩ (fun w_29 H locs hw hP hD hS => ?_)
                      have hP : va_P D vwCl [(a_this, oX8 a_this_bytes a_this_keys a_this_reg a_this_card a_this_filled a_this_taken a_this_line a_this_one a_this_two w_29.1), (a_this_bytes, .inl (k_this_bytes, 2048, .inl w_29.2)), (a_this_keys, .inl (k_this_keys, 8, .inl r_this_keys)), (a_this_reg, .inl (k_this_reg, 16, .inl r_this_reg))] H := hP
                      have hD : va_D A [(a_this, oX8 a_this_bytes a_this_keys a_this_reg a_this_card a_this_filled a_this_taken a_this_line a_this_one a_this_two w_29.1), (a_this_bytes, .inl (k_this_bytes, 2048, .inl w_29.2)), (a_this_keys, .inl (k_this_keys, 8, .inl r_this_keys)), (a_this_reg, .inl (k_this_reg, 16, .inl r_this_reg))] := hD
                      rw [q_let_of hw] at hF
                      exact hQ (w_29.1, w_29.2, r_this_reg) _ _ _ _ dX8_doStored_323 hF.symm hP hD hS
                  · skip
                    rw [if_pos c_24] at hF
                    rw [if_pos c_24] at hs
                    refine lv_iconst (v := 1) hx hb dX8_doStored_305 (by decide) ?_
                    refine lv_goto (tgt := 310) hx hb dX8_doStored_306 (by decide) ?_
                    obtain ⟨hi_30, hs⟩ := hs
                    refine q_Vi (rest := []) (c_X8_good l D a_this a_this_keys a_this_bytes a_this_reg a_this_card a_this_filled a_this_taken a_this_line a_this_one a_this_two k_this_keys o_this r_this_keys p3 1 1 true hi_30) cv_X8_good hx hb hml hown ht hN hK hA hP hD hS hl.1 (km_X8_158) ⟨Nat.le_of_ble_eq_true rfl, Nat.le_of_ble_eq_true rfl⟩ rfl rfl [0, 2] (by decide) rfl [1] rfl (fun _ => rfl) (ci := 8) rfl rfl rfl rfl rfl (Nat.le_of_ble_eq_true rfl) dX8_doStored_310 ⟨Nat.zero_le _, Nat.zero_le _⟩ (fun r w_31 H locs hw hP hD hS => ?_)
                    obtain ⟨hw, hr⟩ := hw
                    subst hr
                    have hP : va_P D vwCl [(a_this, oX8 a_this_bytes a_this_keys a_this_reg a_this_card a_this_filled a_this_taken a_this_line a_this_one a_this_two w_31.2), (a_this_bytes, .inl (k_this_bytes, 2048, .inl r_this_bytes)), (a_this_keys, .inl (k_this_keys, 8, .inl r_this_keys)), (a_this_reg, .inl (k_this_reg, 16, .inl r_this_reg))] H := hP
                    have hD : va_D A [(a_this, oX8 a_this_bytes a_this_keys a_this_reg a_this_card a_this_filled a_this_taken a_this_line a_this_one a_this_two w_31.2), (a_this_bytes, .inl (k_this_bytes, 2048, .inl r_this_bytes)), (a_this_keys, .inl (k_this_keys, 8, .inl r_this_keys)), (a_this_reg, .inl (k_this_reg, 16, .inl r_this_reg))] := hD
                    rw [q_let_of hw] at hF
                    rw [q_let_of hw] at hs
                    refine lv_if_eq (tgt := 323) hx hb dX8_doStored_313 (by decide) (fun c_32 => ?_) (fun c_32 => ?_)
                    · have c_32 : ¬ w_31.1 = true := by rw [(bI_eq0 _).mp c_32]; decide
                      rw [if_neg c_32] at hF
                      rw [if_neg c_32] at hs
                      exact hQ (w_31.2, r_this_bytes, r_this_reg) _ _ _ _ dX8_doStored_323 hF.symm hP hD hS
                    · have c_32 := (bI_ne0 _).mp c_32
                      rw [if_pos c_32] at hF
                      rw [if_pos c_32] at hs
                      refine lv_aload_n hx hb dX8_doStored_316 rfl (lv_at hl 2 rfl) ?_
                      refine lv_iload_n hx hb dX8_doStored_317 rfl (lv_at hl 3 rfl) ?_
                      refine lv_iload_n hx hb dX8_doStored_318 rfl (lv_at hl 4 rfl) ?_
                      refine lv_iload_n hx hb dX8_doStored_319 rfl (lv_at hl 5 rfl) ?_
                      have hi_33 := hs
                      refine q_Vv (rest := []) (c_X8_single l D a_this a_this_bytes a_this_keys a_this_reg a_this_card a_this_filled a_this_taken a_this_line a_this_one a_this_two k_this_bytes w_31.2 r_this_bytes p1 p2 p3 hi_33) cv_X8_single hx hb hml hown ht hN hK hA hP hD hS hl.1 (km_X8_196) ⟨Nat.le_of_ble_eq_true rfl, Nat.le_of_ble_eq_true rfl⟩ rfl rfl [0, 1] (by decide) rfl [0] rfl (fun _ => rfl) (ci := 8) rfl rfl rfl rfl rfl (Nat.le_of_ble_eq_true rfl) dX8_doStored_320 ⟨Nat.zero_le _, Nat.zero_le _⟩ (fun w_34 H locs hw hP hD hS => ?_)
                      have hP : va_P D vwCl [(a_this, oX8 a_this_bytes a_this_keys a_this_reg a_this_card a_this_filled a_this_taken a_this_line a_this_one a_this_two w_34.1), (a_this_bytes, .inl (k_this_bytes, 2048, .inl w_34.2)), (a_this_keys, .inl (k_this_keys, 8, .inl r_this_keys)), (a_this_reg, .inl (k_this_reg, 16, .inl r_this_reg))] H := hP
                      have hD : va_D A [(a_this, oX8 a_this_bytes a_this_keys a_this_reg a_this_card a_this_filled a_this_taken a_this_line a_this_one a_this_two w_34.1), (a_this_bytes, .inl (k_this_bytes, 2048, .inl w_34.2)), (a_this_keys, .inl (k_this_keys, 8, .inl r_this_keys)), (a_this_reg, .inl (k_this_reg, 16, .inl r_this_reg))] := hD
                      rw [q_let_of hw] at hF
                      exact hQ (w_34.1, w_34.2, r_this_reg) _ _ _ _ dX8_doStored_323 hF.symm hP hD hS
            · skip
              rw [if_pos c_11] at hF
              rw [if_pos c_11] at hs
              refine lv_aload_n hx hb dX8_doStored_227 rfl (lv_at hl 2 rfl) ?_
              refine lv_aload_n hx hb dX8_doStored_228 rfl (lv_at hl 2 rfl) ?_
              refine gf_X8_193 (v := .int (bI o_this.2.2.2.2.2.2.2.2.2.2.1)) hx hb hown ht hK hP 0 rfl rfl dX8_doStored_229 ?_
              refine lv_if_eq (tgt := 239) hx hb dX8_doStored_232 (by decide) (fun c_35 => ?_) (fun c_35 => ?_)
              · have c_35 : ¬ o_this.2.2.2.2.2.2.2.2.2.2.1 = true := by rw [(bI_eq0 _).mp c_35]; decide
                rw [if_neg c_35] at hF
                refine lv_aload_n hx hb dX8_doStored_239 rfl (lv_at hl 2 rfl) ?_
                refine gf_X8_80 (v := .int (bI o_this.2.2.2.2.2.1)) hx hb hown ht hK hP 0 rfl rfl dX8_doStored_240 ?_
                refine lv_if_eq (tgt := 250) hx hb dX8_doStored_243 (by decide) (fun c_36 => ?_) (fun c_36 => ?_)
                · have c_36 : ¬ o_this.2.2.2.2.2.1 = true := by rw [(bI_eq0 _).mp c_36]; decide
                  rw [if_neg c_36] at hF
                  refine lv_iconst (v := 0) hx hb dX8_doStored_250 (by decide) ?_
                  refine pf_X8_52 (x := 0) hx hb hown ht hK hP hD hS 0 rfl (Nat.le_of_ble_eq_true rfl) dX8_doStored_251 (fun H locs hP hD hS => ?_)
                  have hP : va_P D vwCl [(a_this, oX8 a_this_bytes a_this_keys a_this_reg a_this_card a_this_filled a_this_taken a_this_line a_this_one a_this_two (o_this.1, o_this.2.1, 0, o_this.2.2.2.1, o_this.2.2.2.2.1, o_this.2.2.2.2.2.1, o_this.2.2.2.2.2.2.1, o_this.2.2.2.2.2.2.2.1, o_this.2.2.2.2.2.2.2.2.1, o_this.2.2.2.2.2.2.2.2.2.1, o_this.2.2.2.2.2.2.2.2.2.2.1, o_this.2.2.2.2.2.2.2.2.2.2.2.1, o_this.2.2.2.2.2.2.2.2.2.2.2.2.1, o_this.2.2.2.2.2.2.2.2.2.2.2.2.2.1, o_this.2.2.2.2.2.2.2.2.2.2.2.2.2.2.1, o_this.2.2.2.2.2.2.2.2.2.2.2.2.2.2.2.1, o_this.2.2.2.2.2.2.2.2.2.2.2.2.2.2.2.2.1, o_this.2.2.2.2.2.2.2.2.2.2.2.2.2.2.2.2.2.1, o_this.2.2.2.2.2.2.2.2.2.2.2.2.2.2.2.2.2.2.1, o_this.2.2.2.2.2.2.2.2.2.2.2.2.2.2.2.2.2.2.2.1, o_this.2.2.2.2.2.2.2.2.2.2.2.2.2.2.2.2.2.2.2.2.1, o_this.2.2.2.2.2.2.2.2.2.2.2.2.2.2.2.2.2.2.2.2.2.1, o_this.2.2.2.2.2.2.2.2.2.2.2.2.2.2.2.2.2.2.2.2.2.2.1, o_this.2.2.2.2.2.2.2.2.2.2.2.2.2.2.2.2.2.2.2.2.2.2.2.1, o_this.2.2.2.2.2.2.2.2.2.2.2.2.2.2.2.2.2.2.2.2.2.2.2.2)), (a_this_bytes, .inl (k_this_bytes, 2048, .inl r_this_bytes)), (a_this_keys, .inl (k_this_keys, 8, .inl r_this_keys)), (a_this_reg, .inl (k_this_reg, 16, .inl r_this_reg))] H := hP
                  have hD : va_D A [(a_this, oX8 a_this_bytes a_this_keys a_this_reg a_this_card a_this_filled a_this_taken a_this_line a_this_one a_this_two (o_this.1, o_this.2.1, 0, o_this.2.2.2.1, o_this.2.2.2.2.1, o_this.2.2.2.2.2.1, o_this.2.2.2.2.2.2.1, o_this.2.2.2.2.2.2.2.1, o_this.2.2.2.2.2.2.2.2.1, o_this.2.2.2.2.2.2.2.2.2.1, o_this.2.2.2.2.2.2.2.2.2.2.1, o_this.2.2.2.2.2.2.2.2.2.2.2.1, o_this.2.2.2.2.2.2.2.2.2.2.2.2.1, o_this.2.2.2.2.2.2.2.2.2.2.2.2.2.1, o_this.2.2.2.2.2.2.2.2.2.2.2.2.2.2.1, o_this.2.2.2.2.2.2.2.2.2.2.2.2.2.2.2.1, o_this.2.2.2.2.2.2.2.2.2.2.2.2.2.2.2.2.1, o_this.2.2.2.2.2.2.2.2.2.2.2.2.2.2.2.2.2.1, o_this.2.2.2.2.2.2.2.2.2.2.2.2.2.2.2.2.2.2.1, o_this.2.2.2.2.2.2.2.2.2.2.2.2.2.2.2.2.2.2.2.1, o_this.2.2.2.2.2.2.2.2.2.2.2.2.2.2.2.2.2.2.2.2.1, o_this.2.2.2.2.2.2.2.2.2.2.2.2.2.2.2.2.2.2.2.2.2.1, o_this.2.2.2.2.2.2.2.2.2.2.2.2.2.2.2.2.2.2.2.2.2.2.1, o_this.2.2.2.2.2.2.2.2.2.2.2.2.2.2.2.2.2.2.2.2.2.2.2.1, o_this.2.2.2.2.2.2.2.2.2.2.2.2.2.2.2.2.2.2.2.2.2.2.2.2)), (a_this_bytes, .inl (k_this_bytes, 2048, .inl r_this_bytes)), (a_this_keys, .inl (k_this_keys, 8, .inl r_this_keys)), (a_this_reg, .inl (k_this_reg, 16, .inl r_this_reg))] := hD
                  refine lv_aload_n hx hb dX8_doStored_254 rfl (lv_at hl 2 rfl) ?_
                  refine lv_aload_n hx hb dX8_doStored_255 rfl (lv_at hl 2 rfl) ?_
                  refine gf_X8_193 (v := .int (bI o_this.2.2.2.2.2.2.2.2.2.2.1)) hx hb hown ht hK hP 0 rfl rfl dX8_doStored_256 ?_
                  refine lv_if_eq (tgt := 273) hx hb dX8_doStored_259 (by decide) (fun c_37 => ?_) (fun c_37 => ?_)
                  · have c_37 : ¬ o_this.2.2.2.2.2.2.2.2.2.2.1 = true := by rw [(bI_eq0 _).mp c_37]; decide
                    rw [if_neg c_37] at hF
                    refine lv_iconst (v := 0) hx hb dX8_doStored_273 (by decide) ?_
                    refine pf_X8_80 (x := false) hx hb hown ht hK hP hD hS 0 rfl (Nat.le_of_ble_eq_true rfl) dX8_doStored_274 (fun H locs hP hD hS => ?_)
                    have hP : va_P D vwCl [(a_this, oX8 a_this_bytes a_this_keys a_this_reg a_this_card a_this_filled a_this_taken a_this_line a_this_one a_this_two (o_this.1, o_this.2.1, 0, o_this.2.2.2.1, o_this.2.2.2.2.1, false, o_this.2.2.2.2.2.2.1, o_this.2.2.2.2.2.2.2.1, o_this.2.2.2.2.2.2.2.2.1, o_this.2.2.2.2.2.2.2.2.2.1, o_this.2.2.2.2.2.2.2.2.2.2.1, o_this.2.2.2.2.2.2.2.2.2.2.2.1, o_this.2.2.2.2.2.2.2.2.2.2.2.2.1, o_this.2.2.2.2.2.2.2.2.2.2.2.2.2.1, o_this.2.2.2.2.2.2.2.2.2.2.2.2.2.2.1, o_this.2.2.2.2.2.2.2.2.2.2.2.2.2.2.2.1, o_this.2.2.2.2.2.2.2.2.2.2.2.2.2.2.2.2.1, o_this.2.2.2.2.2.2.2.2.2.2.2.2.2.2.2.2.2.1, o_this.2.2.2.2.2.2.2.2.2.2.2.2.2.2.2.2.2.2.1, o_this.2.2.2.2.2.2.2.2.2.2.2.2.2.2.2.2.2.2.2.1, o_this.2.2.2.2.2.2.2.2.2.2.2.2.2.2.2.2.2.2.2.2.1, o_this.2.2.2.2.2.2.2.2.2.2.2.2.2.2.2.2.2.2.2.2.2.1, o_this.2.2.2.2.2.2.2.2.2.2.2.2.2.2.2.2.2.2.2.2.2.2.1, o_this.2.2.2.2.2.2.2.2.2.2.2.2.2.2.2.2.2.2.2.2.2.2.2.1, o_this.2.2.2.2.2.2.2.2.2.2.2.2.2.2.2.2.2.2.2.2.2.2.2.2)), (a_this_bytes, .inl (k_this_bytes, 2048, .inl r_this_bytes)), (a_this_keys, .inl (k_this_keys, 8, .inl r_this_keys)), (a_this_reg, .inl (k_this_reg, 16, .inl r_this_reg))] H := hP
                    have hD : va_D A [(a_this, oX8 a_this_bytes a_this_keys a_this_reg a_this_card a_this_filled a_this_taken a_this_line a_this_one a_this_two (o_this.1, o_this.2.1, 0, o_this.2.2.2.1, o_this.2.2.2.2.1, false, o_this.2.2.2.2.2.2.1, o_this.2.2.2.2.2.2.2.1, o_this.2.2.2.2.2.2.2.2.1, o_this.2.2.2.2.2.2.2.2.2.1, o_this.2.2.2.2.2.2.2.2.2.2.1, o_this.2.2.2.2.2.2.2.2.2.2.2.1, o_this.2.2.2.2.2.2.2.2.2.2.2.2.1, o_this.2.2.2.2.2.2.2.2.2.2.2.2.2.1, o_this.2.2.2.2.2.2.2.2.2.2.2.2.2.2.1, o_this.2.2.2.2.2.2.2.2.2.2.2.2.2.2.2.1, o_this.2.2.2.2.2.2.2.2.2.2.2.2.2.2.2.2.1, o_this.2.2.2.2.2.2.2.2.2.2.2.2.2.2.2.2.2.1, o_this.2.2.2.2.2.2.2.2.2.2.2.2.2.2.2.2.2.2.1, o_this.2.2.2.2.2.2.2.2.2.2.2.2.2.2.2.2.2.2.2.1, o_this.2.2.2.2.2.2.2.2.2.2.2.2.2.2.2.2.2.2.2.2.1, o_this.2.2.2.2.2.2.2.2.2.2.2.2.2.2.2.2.2.2.2.2.2.1, o_this.2.2.2.2.2.2.2.2.2.2.2.2.2.2.2.2.2.2.2.2.2.2.1, o_this.2.2.2.2.2.2.2.2.2.2.2.2.2.2.2.2.2.2.2.2.2.2.2.1, o_this.2.2.2.2.2.2.2.2.2.2.2.2.2.2.2.2.2.2.2.2.2.2.2.2)), (a_this_bytes, .inl (k_this_bytes, 2048, .inl r_this_bytes)), (a_this_keys, .inl (k_this_keys, 8, .inl r_this_keys)), (a_this_reg, .inl (k_this_reg, 16, .inl r_this_reg))] := hD
                    refine lv_goto (tgt := 323) hx hb dX8_doStored_277 (by decide) ?_
                    exact hQ ((o_this.1, o_this.2.1, 0, o_this.2.2.2.1, o_this.2.2.2.2.1, false, o_this.2.2.2.2.2.2.1, o_this.2.2.2.2.2.2.2.1, o_this.2.2.2.2.2.2.2.2.1, o_this.2.2.2.2.2.2.2.2.2.1, o_this.2.2.2.2.2.2.2.2.2.2.1, o_this.2.2.2.2.2.2.2.2.2.2.2.1, o_this.2.2.2.2.2.2.2.2.2.2.2.2.1, o_this.2.2.2.2.2.2.2.2.2.2.2.2.2.1, o_this.2.2.2.2.2.2.2.2.2.2.2.2.2.2.1, o_this.2.2.2.2.2.2.2.2.2.2.2.2.2.2.2.1, o_this.2.2.2.2.2.2.2.2.2.2.2.2.2.2.2.2.1, o_this.2.2.2.2.2.2.2.2.2.2.2.2.2.2.2.2.2.1, o_this.2.2.2.2.2.2.2.2.2.2.2.2.2.2.2.2.2.2.1, o_this.2.2.2.2.2.2.2.2.2.2.2.2.2.2.2.2.2.2.2.1, o_this.2.2.2.2.2.2.2.2.2.2.2.2.2.2.2.2.2.2.2.2.1, o_this.2.2.2.2.2.2.2.2.2.2.2.2.2.2.2.2.2.2.2.2.2.1, o_this.2.2.2.2.2.2.2.2.2.2.2.2.2.2.2.2.2.2.2.2.2.2.1, o_this.2.2.2.2.2.2.2.2.2.2.2.2.2.2.2.2.2.2.2.2.2.2.2.1, o_this.2.2.2.2.2.2.2.2.2.2.2.2.2.2.2.2.2.2.2.2.2.2.2.2), r_this_bytes, r_this_reg) _ _ _ _ dX8_doStored_323 hF.symm hP hD hS
                  · have c_37 := (bI_ne0 _).mp c_37
                    rw [if_pos c_37] at hF
                    refine lv_aload_n hx hb dX8_doStored_262 rfl (lv_at hl 2 rfl) ?_
                    refine gf_X8_80 (v := .int (bI o_this.2.2.2.2.2.1)) hx hb hown ht hK hP 0 rfl rfl dX8_doStored_263 ?_
                    refine lv_if_eq (tgt := 273) hx hb dX8_doStored_266 (by decide) (fun c_38 => ?_) (fun c_38 => ?_)
                    · have c_38 : ¬ o_this.2.2.2.2.2.1 = true := by rw [(bI_eq0 _).mp c_38]; decide
                      rw [if_neg c_38] at hF
                      refine lv_iconst (v := 0) hx hb dX8_doStored_273 (by decide) ?_
                      refine pf_X8_80 (x := false) hx hb hown ht hK hP hD hS 0 rfl (Nat.le_of_ble_eq_true rfl) dX8_doStored_274 (fun H locs hP hD hS => ?_)
                      have hP : va_P D vwCl [(a_this, oX8 a_this_bytes a_this_keys a_this_reg a_this_card a_this_filled a_this_taken a_this_line a_this_one a_this_two (o_this.1, o_this.2.1, 0, o_this.2.2.2.1, o_this.2.2.2.2.1, false, o_this.2.2.2.2.2.2.1, o_this.2.2.2.2.2.2.2.1, o_this.2.2.2.2.2.2.2.2.1, o_this.2.2.2.2.2.2.2.2.2.1, o_this.2.2.2.2.2.2.2.2.2.2.1, o_this.2.2.2.2.2.2.2.2.2.2.2.1, o_this.2.2.2.2.2.2.2.2.2.2.2.2.1, o_this.2.2.2.2.2.2.2.2.2.2.2.2.2.1, o_this.2.2.2.2.2.2.2.2.2.2.2.2.2.2.1, o_this.2.2.2.2.2.2.2.2.2.2.2.2.2.2.2.1, o_this.2.2.2.2.2.2.2.2.2.2.2.2.2.2.2.2.1, o_this.2.2.2.2.2.2.2.2.2.2.2.2.2.2.2.2.2.1, o_this.2.2.2.2.2.2.2.2.2.2.2.2.2.2.2.2.2.2.1, o_this.2.2.2.2.2.2.2.2.2.2.2.2.2.2.2.2.2.2.2.1, o_this.2.2.2.2.2.2.2.2.2.2.2.2.2.2.2.2.2.2.2.2.1, o_this.2.2.2.2.2.2.2.2.2.2.2.2.2.2.2.2.2.2.2.2.2.1, o_this.2.2.2.2.2.2.2.2.2.2.2.2.2.2.2.2.2.2.2.2.2.2.1, o_this.2.2.2.2.2.2.2.2.2.2.2.2.2.2.2.2.2.2.2.2.2.2.2.1, o_this.2.2.2.2.2.2.2.2.2.2.2.2.2.2.2.2.2.2.2.2.2.2.2.2)), (a_this_bytes, .inl (k_this_bytes, 2048, .inl r_this_bytes)), (a_this_keys, .inl (k_this_keys, 8, .inl r_this_keys)), (a_this_reg, .inl (k_this_reg, 16, .inl r_this_reg))] H := hP
                      have hD : va_D A [(a_this, oX8 a_this_bytes a_this_keys a_this_reg a_this_card a_this_filled a_this_taken a_this_line a_this_one a_this_two (o_this.1, o_this.2.1, 0, o_this.2.2.2.1, o_this.2.2.2.2.1, false, o_this.2.2.2.2.2.2.1, o_this.2.2.2.2.2.2.2.1, o_this.2.2.2.2.2.2.2.2.1, o_this.2.2.2.2.2.2.2.2.2.1, o_this.2.2.2.2.2.2.2.2.2.2.1, o_this.2.2.2.2.2.2.2.2.2.2.2.1, o_this.2.2.2.2.2.2.2.2.2.2.2.2.1, o_this.2.2.2.2.2.2.2.2.2.2.2.2.2.1, o_this.2.2.2.2.2.2.2.2.2.2.2.2.2.2.1, o_this.2.2.2.2.2.2.2.2.2.2.2.2.2.2.2.1, o_this.2.2.2.2.2.2.2.2.2.2.2.2.2.2.2.2.1, o_this.2.2.2.2.2.2.2.2.2.2.2.2.2.2.2.2.2.1, o_this.2.2.2.2.2.2.2.2.2.2.2.2.2.2.2.2.2.2.1, o_this.2.2.2.2.2.2.2.2.2.2.2.2.2.2.2.2.2.2.2.1, o_this.2.2.2.2.2.2.2.2.2.2.2.2.2.2.2.2.2.2.2.2.1, o_this.2.2.2.2.2.2.2.2.2.2.2.2.2.2.2.2.2.2.2.2.2.1, o_this.2.2.2.2.2.2.2.2.2.2.2.2.2.2.2.2.2.2.2.2.2.2.1, o_this.2.2.2.2.2.2.2.2.2.2.2.2.2.2.2.2.2.2.2.2.2.2.2.1, o_this.2.2.2.2.2.2.2.2.2.2.2.2.2.2.2.2.2.2.2.2.2.2.2.2)), (a_this_bytes, .inl (k_this_bytes, 2048, .inl r_this_bytes)), (a_this_keys, .inl (k_this_keys, 8, .inl r_this_keys)), (a_this_reg, .inl (k_this_reg, 16, .inl r_this_reg))] := hD
                      refine lv_goto (tgt := 323) hx hb dX8_doStored_277 (by decide) ?_
                      exact hQ ((o_this.1, o_this.2.1, 0, o_this.2.2.2.1, o_this.2.2.2.2.1, false, o_this.2.2.2.2.2.2.1, o_this.2.2.2.2.2.2.2.1, o_this.2.2.2.2.2.2.2.2.1, o_this.2.2.2.2.2.2.2.2.2.1, o_this.2.2.2.2.2.2.2.2.2.2.1, o_this.2.2.2.2.2.2.2.2.2.2.2.1, o_this.2.2.2.2.2.2.2.2.2.2.2.2.1, o_this.2.2.2.2.2.2.2.2.2.2.2.2.2.1, o_this.2.2.2.2.2.2.2.2.2.2.2.2.2.2.1, o_this.2.2.2.2.2.2.2.2.2.2.2.2.2.2.2.1, o_this.2.2.2.2.2.2.2.2.2.2.2.2.2.2.2.2.1, o_this.2.2.2.2.2.2.2.2.2.2.2.2.2.2.2.2.2.1, o_this.2.2.2.2.2.2.2.2.2.2.2.2.2.2.2.2.2.2.1, o_this.2.2.2.2.2.2.2.2.2.2.2.2.2.2.2.2.2.2.2.1, o_this.2.2.2.2.2.2.2.2.2.2.2.2.2.2.2.2.2.2.2.2.1, o_this.2.2.2.2.2.2.2.2.2.2.2.2.2.2.2.2.2.2.2.2.2.1, o_this.2.2.2.2.2.2.2.2.2.2.2.2.2.2.2.2.2.2.2.2.2.2.1, o_this.2.2.2.2.2.2.2.2.2.2.2.2.2.2.2.2.2.2.2.2.2.2.2.1, o_this.2.2.2.2.2.2.2.2.2.2.2.2.2.2.2.2.2.2.2.2.2.2.2.2), r_this_bytes, r_this_reg) _ _ _ _ dX8_doStored_323 hF.symm hP hD hS
                    · have c_38 := (bI_ne0 _).mp c_38
                      rw [if_pos c_38] at hF
                      refine lv_iconst (v := 1) hx hb dX8_doStored_269 (by decide) ?_
                      refine lv_goto (tgt := 274) hx hb dX8_doStored_270 (by decide) ?_
                      refine pf_X8_80 (x := true) hx hb hown ht hK hP hD hS 0 rfl (Nat.le_of_ble_eq_true rfl) dX8_doStored_274 (fun H locs hP hD hS => ?_)
                      have hP : va_P D vwCl [(a_this, oX8 a_this_bytes a_this_keys a_this_reg a_this_card a_this_filled a_this_taken a_this_line a_this_one a_this_two (o_this.1, o_this.2.1, 0, o_this.2.2.2.1, o_this.2.2.2.2.1, true, o_this.2.2.2.2.2.2.1, o_this.2.2.2.2.2.2.2.1, o_this.2.2.2.2.2.2.2.2.1, o_this.2.2.2.2.2.2.2.2.2.1, o_this.2.2.2.2.2.2.2.2.2.2.1, o_this.2.2.2.2.2.2.2.2.2.2.2.1, o_this.2.2.2.2.2.2.2.2.2.2.2.2.1, o_this.2.2.2.2.2.2.2.2.2.2.2.2.2.1, o_this.2.2.2.2.2.2.2.2.2.2.2.2.2.2.1, o_this.2.2.2.2.2.2.2.2.2.2.2.2.2.2.2.1, o_this.2.2.2.2.2.2.2.2.2.2.2.2.2.2.2.2.1, o_this.2.2.2.2.2.2.2.2.2.2.2.2.2.2.2.2.2.1, o_this.2.2.2.2.2.2.2.2.2.2.2.2.2.2.2.2.2.2.1, o_this.2.2.2.2.2.2.2.2.2.2.2.2.2.2.2.2.2.2.2.1, o_this.2.2.2.2.2.2.2.2.2.2.2.2.2.2.2.2.2.2.2.2.1, o_this.2.2.2.2.2.2.2.2.2.2.2.2.2.2.2.2.2.2.2.2.2.1, o_this.2.2.2.2.2.2.2.2.2.2.2.2.2.2.2.2.2.2.2.2.2.2.1, o_this.2.2.2.2.2.2.2.2.2.2.2.2.2.2.2.2.2.2.2.2.2.2.2.1, o_this.2.2.2.2.2.2.2.2.2.2.2.2.2.2.2.2.2.2.2.2.2.2.2.2)), (a_this_bytes, .inl (k_this_bytes, 2048, .inl r_this_bytes)), (a_this_keys, .inl (k_this_keys, 8, .inl r_this_keys)), (a_this_reg, .inl (k_this_reg, 16, .inl r_this_reg))] H := hP
                      have hD : va_D A [(a_this, oX8 a_this_bytes a_this_keys a_this_reg a_this_card a_this_filled a_this_taken a_this_line a_this_one a_this_two (o_this.1, o_this.2.1, 0, o_this.2.2.2.1, o_this.2.2.2.2.1, true, o_this.2.2.2.2.2.2.1, o_this.2.2.2.2.2.2.2.1, o_this.2.2.2.2.2.2.2.2.1, o_this.2.2.2.2.2.2.2.2.2.1, o_this.2.2.2.2.2.2.2.2.2.2.1, o_this.2.2.2.2.2.2.2.2.2.2.2.1, o_this.2.2.2.2.2.2.2.2.2.2.2.2.1, o_this.2.2.2.2.2.2.2.2.2.2.2.2.2.1, o_this.2.2.2.2.2.2.2.2.2.2.2.2.2.2.1, o_this.2.2.2.2.2.2.2.2.2.2.2.2.2.2.2.1, o_this.2.2.2.2.2.2.2.2.2.2.2.2.2.2.2.2.1, o_this.2.2.2.2.2.2.2.2.2.2.2.2.2.2.2.2.2.1, o_this.2.2.2.2.2.2.2.2.2.2.2.2.2.2.2.2.2.2.1, o_this.2.2.2.2.2.2.2.2.2.2.2.2.2.2.2.2.2.2.2.1, o_this.2.2.2.2.2.2.2.2.2.2.2.2.2.2.2.2.2.2.2.2.1, o_this.2.2.2.2.2.2.2.2.2.2.2.2.2.2.2.2.2.2.2.2.2.1, o_this.2.2.2.2.2.2.2.2.2.2.2.2.2.2.2.2.2.2.2.2.2.2.1, o_this.2.2.2.2.2.2.2.2.2.2.2.2.2.2.2.2.2.2.2.2.2.2.2.1, o_this.2.2.2.2.2.2.2.2.2.2.2.2.2.2.2.2.2.2.2.2.2.2.2.2)), (a_this_bytes, .inl (k_this_bytes, 2048, .inl r_this_bytes)), (a_this_keys, .inl (k_this_keys, 8, .inl r_this_keys)), (a_this_reg, .inl (k_this_reg, 16, .inl r_this_reg))] := hD
                      refine lv_goto (tgt := 323) hx hb dX8_doStored_277 (by decide) ?_
                      exact hQ ((o_this.1, o_this.2.1, 0, o_this.2.2.2.1, o_this.2.2.2.2.1, true, o_this.2.2.2.2.2.2.1, o_this.2.2.2.2.2.2.2.1, o_this.2.2.2.2.2.2.2.2.1, o_this.2.2.2.2.2.2.2.2.2.1, o_this.2.2.2.2.2.2.2.2.2.2.1, o_this.2.2.2.2.2.2.2.2.2.2.2.1, o_this.2.2.2.2.2.2.2.2.2.2.2.2.1, o_this.2.2.2.2.2.2.2.2.2.2.2.2.2.1, o_this.2.2.2.2.2.2.2.2.2.2.2.2.2.2.1, o_this.2.2.2.2.2.2.2.2.2.2.2.2.2.2.2.1, o_this.2.2.2.2.2.2.2.2.2.2.2.2.2.2.2.2.1, o_this.2.2.2.2.2.2.2.2.2.2.2.2.2.2.2.2.2.1, o_this.2.2.2.2.2.2.2.2.2.2.2.2.2.2.2.2.2.2.1, o_this.2.2.2.2.2.2.2.2.2.2.2.2.2.2.2.2.2.2.2.1, o_this.2.2.2.2.2.2.2.2.2.2.2.2.2.2.2.2.2.2.2.2.1, o_this.2.2.2.2.2.2.2.2.2.2.2.2.2.2.2.2.2.2.2.2.2.1, o_this.2.2.2.2.2.2.2.2.2.2.2.2.2.2.2.2.2.2.2.2.2.2.1, o_this.2.2.2.2.2.2.2.2.2.2.2.2.2.2.2.2.2.2.2.2.2.2.2.1, o_this.2.2.2.2.2.2.2.2.2.2.2.2.2.2.2.2.2.2.2.2.2.2.2.2), r_this_bytes, r_this_reg) _ _ _ _ dX8_doStored_323 hF.symm hP hD hS
                · have c_36 := (bI_ne0 _).mp c_36
                  rw [if_pos c_36] at hF
                  refine lv_iconst (v := 1) hx hb dX8_doStored_246 (by decide) ?_
                  refine lv_goto (tgt := 251) hx hb dX8_doStored_247 (by decide) ?_
                  refine pf_X8_52 (x := 1) hx hb hown ht hK hP hD hS 0 rfl (Nat.le_of_ble_eq_true rfl) dX8_doStored_251 (fun H locs hP hD hS => ?_)
                  have hP : va_P D vwCl [(a_this, oX8 a_this_bytes a_this_keys a_this_reg a_this_card a_this_filled a_this_taken a_this_line a_this_one a_this_two (o_this.1, o_this.2.1, 1, o_this.2.2.2.1, o_this.2.2.2.2.1, o_this.2.2.2.2.2.1, o_this.2.2.2.2.2.2.1, o_this.2.2.2.2.2.2.2.1, o_this.2.2.2.2.2.2.2.2.1, o_this.2.2.2.2.2.2.2.2.2.1, o_this.2.2.2.2.2.2.2.2.2.2.1, o_this.2.2.2.2.2.2.2.2.2.2.2.1, o_this.2.2.2.2.2.2.2.2.2.2.2.2.1, o_this.2.2.2.2.2.2.2.2.2.2.2.2.2.1, o_this.2.2.2.2.2.2.2.2.2.2.2.2.2.2.1, o_this.2.2.2.2.2.2.2.2.2.2.2.2.2.2.2.1, o_this.2.2.2.2.2.2.2.2.2.2.2.2.2.2.2.2.1, o_this.2.2.2.2.2.2.2.2.2.2.2.2.2.2.2.2.2.1, o_this.2.2.2.2.2.2.2.2.2.2.2.2.2.2.2.2.2.2.1, o_this.2.2.2.2.2.2.2.2.2.2.2.2.2.2.2.2.2.2.2.1, o_this.2.2.2.2.2.2.2.2.2.2.2.2.2.2.2.2.2.2.2.2.1, o_this.2.2.2.2.2.2.2.2.2.2.2.2.2.2.2.2.2.2.2.2.2.1, o_this.2.2.2.2.2.2.2.2.2.2.2.2.2.2.2.2.2.2.2.2.2.2.1, o_this.2.2.2.2.2.2.2.2.2.2.2.2.2.2.2.2.2.2.2.2.2.2.2.1, o_this.2.2.2.2.2.2.2.2.2.2.2.2.2.2.2.2.2.2.2.2.2.2.2.2)), (a_this_bytes, .inl (k_this_bytes, 2048, .inl r_this_bytes)), (a_this_keys, .inl (k_this_keys, 8, .inl r_this_keys)), (a_this_reg, .inl (k_this_reg, 16, .inl r_this_reg))] H := hP
                  have hD : va_D A [(a_this, oX8 a_this_bytes a_this_keys a_this_reg a_this_card a_this_filled a_this_taken a_this_line a_this_one a_this_two (o_this.1, o_this.2.1, 1, o_this.2.2.2.1, o_this.2.2.2.2.1, o_this.2.2.2.2.2.1, o_this.2.2.2.2.2.2.1, o_this.2.2.2.2.2.2.2.1, o_this.2.2.2.2.2.2.2.2.1, o_this.2.2.2.2.2.2.2.2.2.1, o_this.2.2.2.2.2.2.2.2.2.2.1, o_this.2.2.2.2.2.2.2.2.2.2.2.1, o_this.2.2.2.2.2.2.2.2.2.2.2.2.1, o_this.2.2.2.2.2.2.2.2.2.2.2.2.2.1, o_this.2.2.2.2.2.2.2.2.2.2.2.2.2.2.1, o_this.2.2.2.2.2.2.2.2.2.2.2.2.2.2.2.1, o_this.2.2.2.2.2.2.2.2.2.2.2.2.2.2.2.2.1, o_this.2.2.2.2.2.2.2.2.2.2.2.2.2.2.2.2.2.1, o_this.2.2.2.2.2.2.2.2.2.2.2.2.2.2.2.2.2.2.1, o_this.2.2.2.2.2.2.2.2.2.2.2.2.2.2.2.2.2.2.2.1, o_this.2.2.2.2.2.2.2.2.2.2.2.2.2.2.2.2.2.2.2.2.1, o_this.2.2.2.2.2.2.2.2.2.2.2.2.2.2.2.2.2.2.2.2.2.1, o_this.2.2.2.2.2.2.2.2.2.2.2.2.2.2.2.2.2.2.2.2.2.2.1, o_this.2.2.2.2.2.2.2.2.2.2.2.2.2.2.2.2.2.2.2.2.2.2.2.1, o_this.2.2.2.2.2.2.2.2.2.2.2.2.2.2.2.2.2.2.2.2.2.2.2.2)), (a_this_bytes, .inl (k_this_bytes, 2048, .inl r_this_bytes)), (a_this_keys, .inl (k_this_keys, 8, .inl r_this_keys)), (a_this_reg, .inl (k_this_reg, 16, .inl r_this_reg))] := hD
                  refine lv_aload_n hx hb dX8_doStored_254 rfl (lv_at hl 2 rfl) ?_
                  refine lv_aload_n hx hb dX8_doStored_255 rfl (lv_at hl 2 rfl) ?_
                  refine gf_X8_193 (v := .int (bI o_this.2.2.2.2.2.2.2.2.2.2.1)) hx hb hown ht hK hP 0 rfl rfl dX8_doStored_256 ?_
                  refine lv_if_eq (tgt := 273) hx hb dX8_doStored_259 (by decide) (fun c_39 => ?_) (fun c_39 => ?_)
                  · have c_39 : ¬ o_this.2.2.2.2.2.2.2.2.2.2.1 = true := by rw [(bI_eq0 _).mp c_39]; decide
                    rw [if_neg c_39] at hF
                    refine lv_iconst (v := 0) hx hb dX8_doStored_273 (by decide) ?_
                    refine pf_X8_80 (x := false) hx hb hown ht hK hP hD hS 0 rfl (Nat.le_of_ble_eq_true rfl) dX8_doStored_274 (fun H locs hP hD hS => ?_)
                    have hP : va_P D vwCl [(a_this, oX8 a_this_bytes a_this_keys a_this_reg a_this_card a_this_filled a_this_taken a_this_line a_this_one a_this_two (o_this.1, o_this.2.1, 1, o_this.2.2.2.1, o_this.2.2.2.2.1, false, o_this.2.2.2.2.2.2.1, o_this.2.2.2.2.2.2.2.1, o_this.2.2.2.2.2.2.2.2.1, o_this.2.2.2.2.2.2.2.2.2.1, o_this.2.2.2.2.2.2.2.2.2.2.1, o_this.2.2.2.2.2.2.2.2.2.2.2.1, o_this.2.2.2.2.2.2.2.2.2.2.2.2.1, o_this.2.2.2.2.2.2.2.2.2.2.2.2.2.1, o_this.2.2.2.2.2.2.2.2.2.2.2.2.2.2.1, o_this.2.2.2.2.2.2.2.2.2.2.2.2.2.2.2.1, o_this.2.2.2.2.2.2.2.2.2.2.2.2.2.2.2.2.1, o_this.2.2.2.2.2.2.2.2.2.2.2.2.2.2.2.2.2.1, o_this.2.2.2.2.2.2.2.2.2.2.2.2.2.2.2.2.2.2.1, o_this.2.2.2.2.2.2.2.2.2.2.2.2.2.2.2.2.2.2.2.1, o_this.2.2.2.2.2.2.2.2.2.2.2.2.2.2.2.2.2.2.2.2.1, o_this.2.2.2.2.2.2.2.2.2.2.2.2.2.2.2.2.2.2.2.2.2.1, o_this.2.2.2.2.2.2.2.2.2.2.2.2.2.2.2.2.2.2.2.2.2.2.1, o_this.2.2.2.2.2.2.2.2.2.2.2.2.2.2.2.2.2.2.2.2.2.2.2.1, o_this.2.2.2.2.2.2.2.2.2.2.2.2.2.2.2.2.2.2.2.2.2.2.2.2)), (a_this_bytes, .inl (k_this_bytes, 2048, .inl r_this_bytes)), (a_this_keys, .inl (k_this_keys, 8, .inl r_this_keys)), (a_this_reg, .inl (k_this_reg, 16, .inl r_this_reg))] H := hP
                    have hD : va_D A [(a_this, oX8 a_this_bytes a_this_keys a_this_reg a_this_card a_this_filled a_this_taken a_this_line a_this_one a_this_two (o_this.1, o_this.2.1, 1, o_this.2.2.2.1, o_this.2.2.2.2.1, false, o_this.2.2.2.2.2.2.1, o_this.2.2.2.2.2.2.2.1, o_this.2.2.2.2.2.2.2.2.1, o_this.2.2.2.2.2.2.2.2.2.1, o_this.2.2.2.2.2.2.2.2.2.2.1, o_this.2.2.2.2.2.2.2.2.2.2.2.1, o_this.2.2.2.2.2.2.2.2.2.2.2.2.1, o_this.2.2.2.2.2.2.2.2.2.2.2.2.2.1, o_this.2.2.2.2.2.2.2.2.2.2.2.2.2.2.1, o_this.2.2.2.2.2.2.2.2.2.2.2.2.2.2.2.1, o_this.2.2.2.2.2.2.2.2.2.2.2.2.2.2.2.2.1, o_this.2.2.2.2.2.2.2.2.2.2.2.2.2.2.2.2.2.1, o_this.2.2.2.2.2.2.2.2.2.2.2.2.2.2.2.2.2.2.1, o_this.2.2.2.2.2.2.2.2.2.2.2.2.2.2.2.2.2.2.2.1, o_this.2.2.2.2.2.2.2.2.2.2.2.2.2.2.2.2.2.2.2.2.1, o_this.2.2.2.2.2.2.2.2.2.2.2.2.2.2.2.2.2.2.2.2.2.1, o_this.2.2.2.2.2.2.2.2.2.2.2.2.2.2.2.2.2.2.2.2.2.2.1, o_this.2.2.2.2.2.2.2.2.2.2.2.2.2.2.2.2.2.2.2.2.2.2.2.1, o_this.2.2.2.2.2.2.2.2.2.2.2.2.2.2.2.2.2.2.2.2.2.2.2.2)), (a_this_bytes, .inl (k_this_bytes, 2048, .inl r_this_bytes)), (a_this_keys, .inl (k_this_keys, 8, .inl r_this_keys)), (a_this_reg, .inl (k_this_reg, 16, .inl r_this_reg))] := hD
                    refine lv_goto (tgt := 323) hx hb dX8_doStored_277 (by decide) ?_
                    exact hQ ((o_this.1, o_this.2.1, 1, o_this.2.2.2.1, o_this.2.2.2.2.1, false, o_this.2.2.2.2.2.2.1, o_this.2.2.2.2.2.2.2.1, o_this.2.2.2.2.2.2.2.2.1, o_this.2.2.2.2.2.2.2.2.2.1, o_this.2.2.2.2.2.2.2.2.2.2.1, o_this.2.2.2.2.2.2.2.2.2.2.2.1, o_this.2.2.2.2.2.2.2.2.2.2.2.2.1, o_this.2.2.2.2.2.2.2.2.2.2.2.2.2.1, o_this.2.2.2.2.2.2.2.2.2.2.2.2.2.2.1, o_this.2.2.2.2.2.2.2.2.2.2.2.2.2.2.2.1, o_this.2.2.2.2.2.2.2.2.2.2.2.2.2.2.2.2.1, o_this.2.2.2.2.2.2.2.2.2.2.2.2.2.2.2.2.2.1, o_this.2.2.2.2.2.2.2.2.2.2.2.2.2.2.2.2.2.2.1, o_this.2.2.2.2.2.2.2.2.2.2.2.2.2.2.2.2.2.2.2.1, o_this.2.2.2.2.2.2.2.2.2.2.2.2.2.2.2.2.2.2.2.2.1, o_this.2.2.2.2.2.2.2.2.2.2.2.2.2.2.2.2.2.2.2.2.2.1, o_this.2.2.2.2.2.2.2.2.2.2.2.2.2.2.2.2.2.2.2.2.2.2.1, o_this.2.2.2.2.2.2.2.2.2.2.2.2.2.2.2.2.2.2.2.2.2.2.2.1, o_this.2.2.2.2.2.2.2.2.2.2.2.2.2.2.2.2.2.2.2.2.2.2.2.2), r_this_bytes, r_this_reg) _ _ _ _ dX8_doStored_323 hF.symm hP hD hS
                  · have c_39 := (bI_ne0 _).mp c_39
                    rw [if_pos c_39] at hF
                    refine lv_aload_n hx hb dX8_doStored_262 rfl (lv_at hl 2 rfl) ?_
                    refine gf_X8_80 (v := .int (bI o_this.2.2.2.2.2.1)) hx hb hown ht hK hP 0 rfl rfl dX8_doStored_263 ?_
                    refine lv_if_eq (tgt := 273) hx hb dX8_doStored_266 (by decide) (fun c_40 => ?_) (fun c_40 => ?_)
                    · have c_40 : ¬ o_this.2.2.2.2.2.1 = true := by rw [(bI_eq0 _).mp c_40]; decide
                      rw [if_neg c_40] at hF
                      refine lv_iconst (v := 0) hx hb dX8_doStored_273 (by decide) ?_
                      refine pf_X8_80 (x := false) hx hb hown ht hK hP hD hS 0 rfl (Nat.le_of_ble_eq_true rfl) dX8_doStored_274 (fun H locs hP hD hS => ?_)
                      have hP : va_P D vwCl [(a_this, oX8 a_this_bytes a_this_keys a_this_reg a_this_card a_this_filled a_this_taken a_this_line a_this_one a_this_two (o_this.1, o_this.2.1, 1, o_this.2.2.2.1, o_this.2.2.2.2.1, false, o_this.2.2.2.2.2.2.1, o_this.2.2.2.2.2.2.2.1, o_this.2.2.2.2.2.2.2.2.1, o_this.2.2.2.2.2.2.2.2.2.1, o_this.2.2.2.2.2.2.2.2.2.2.1, o_this.2.2.2.2.2.2.2.2.2.2.2.1, o_this.2.2.2.2.2.2.2.2.2.2.2.2.1, o_this.2.2.2.2.2.2.2.2.2.2.2.2.2.1, o_this.2.2.2.2.2.2.2.2.2.2.2.2.2.2.1, o_this.2.2.2.2.2.2.2.2.2.2.2.2.2.2.2.1, o_this.2.2.2.2.2.2.2.2.2.2.2.2.2.2.2.2.1, o_this.2.2.2.2.2.2.2.2.2.2.2.2.2.2.2.2.2.1, o_this.2.2.2.2.2.2.2.2.2.2.2.2.2.2.2.2.2.2.1, o_this.2.2.2.2.2.2.2.2.2.2.2.2.2.2.2.2.2.2.2.1, o_this.2.2.2.2.2.2.2.2.2.2.2.2.2.2.2.2.2.2.2.2.1, o_this.2.2.2.2.2.2.2.2.2.2.2.2.2.2.2.2.2.2.2.2.2.1, o_this.2.2.2.2.2.2.2.2.2.2.2.2.2.2.2.2.2.2.2.2.2.2.1, o_this.2.2.2.2.2.2.2.2.2.2.2.2.2.2.2.2.2.2.2.2.2.2.2.1, o_this.2.2.2.2.2.2.2.2.2.2.2.2.2.2.2.2.2.2.2.2.2.2.2.2)), (a_this_bytes, .inl (k_this_bytes, 2048, .inl r_this_bytes)), (a_this_keys, .inl (k_this_keys, 8, .inl r_this_keys)), (a_this_reg, .inl (k_this_reg, 16, .inl r_this_reg))] H := hP
                      have hD : va_D A [(a_this, oX8 a_this_bytes a_this_keys a_this_reg a_this_card a_this_filled a_this_taken a_this_line a_this_one a_this_two (o_this.1, o_this.2.1, 1, o_this.2.2.2.1, o_this.2.2.2.2.1, false, o_this.2.2.2.2.2.2.1, o_this.2.2.2.2.2.2.2.1, o_this.2.2.2.2.2.2.2.2.1, o_this.2.2.2.2.2.2.2.2.2.1, o_this.2.2.2.2.2.2.2.2.2.2.1, o_this.2.2.2.2.2.2.2.2.2.2.2.1, o_this.2.2.2.2.2.2.2.2.2.2.2.2.1, o_this.2.2.2.2.2.2.2.2.2.2.2.2.2.1, o_this.2.2.2.2.2.2.2.2.2.2.2.2.2.2.1, o_this.2.2.2.2.2.2.2.2.2.2.2.2.2.2.2.1, o_this.2.2.2.2.2.2.2.2.2.2.2.2.2.2.2.2.1, o_this.2.2.2.2.2.2.2.2.2.2.2.2.2.2.2.2.2.1, o_this.2.2.2.2.2.2.2.2.2.2.2.2.2.2.2.2.2.2.1, o_this.2.2.2.2.2.2.2.2.2.2.2.2.2.2.2.2.2.2.2.1, o_this.2.2.2.2.2.2.2.2.2.2.2.2.2.2.2.2.2.2.2.2.1, o_this.2.2.2.2.2.2.2.2.2.2.2.2.2.2.2.2.2.2.2.2.2.1, o_this.2.2.2.2.2.2.2.2.2.2.2.2.2.2.2.2.2.2.2.2.2.2.1, o_this.2.2.2.2.2.2.2.2.2.2.2.2.2.2.2.2.2.2.2.2.2.2.2.1, o_this.2.2.2.2.2.2.2.2.2.2.2.2.2.2.2.2.2.2.2.2.2.2.2.2)), (a_this_bytes, .inl (k_this_bytes, 2048, .inl r_this_bytes)), (a_this_keys, .inl (k_this_keys, 8, .inl r_this_keys)), (a_this_reg, .inl (k_this_reg, 16, .inl r_this_reg))] := hD
                      refine lv_goto (tgt := 323) hx hb dX8_doStored_277 (by decide) ?_
                      exact hQ ((o_this.1, o_this.2.1, 1, o_this.2.2.2.1, o_this.2.2.2.2.1, false, o_this.2.2.2.2.2.2.1, o_this.2.2.2.2.2.2.2.1, o_this.2.2.2.2.2.2.2.2.1, o_this.2.2.2.2.2.2.2.2.2.1, o_this.2.2.2.2.2.2.2.2.2.2.1, o_this.2.2.2.2.2.2.2.2.2.2.2.1, o_this.2.2.2.2.2.2.2.2.2.2.2.2.1, o_this.2.2.2.2.2.2.2.2.2.2.2.2.2.1, o_this.2.2.2.2.2.2.2.2.2.2.2.2.2.2.1, o_this.2.2.2.2.2.2.2.2.2.2.2.2.2.2.2.1, o_this.2.2.2.2.2.2.2.2.2.2.2.2.2.2.2.2.1, o_this.2.2.2.2.2.2.2.2.2.2.2.2.2.2.2.2.2.1, o_this.2.2.2.2.2.2.2.2.2.2.2.2.2.2.2.2.2.2.1, o_this.2.2.2.2.2.2.2.2.2.2.2.2.2.2.2.2.2.2.2.1, o_this.2.2.2.2.2.2.2.2.2.2.2.2.2.2.2.2.2.2.2.2.1, o_this.2.2.2.2.2.2.2.2.2.2.2.2.2.2.2.2.2.2.2.2.2.1, o_this.2.2.2.2.2.2.2.2.2.2.2.2.2.2.2.2.2.2.2.2.2.2.1, o_this.2.2.2.2.2.2.2.2.2.2.2.2.2.2.2.2.2.2.2.2.2.2.2.1, o_this.2.2.2.2.2.2.2.2.2.2.2.2.2.2.2.2.2.2.2.2.2.2.2.2), r_this_bytes, r_this_reg) _ _ _ _ dX8_doStored_323 hF.symm hP hD hS
                    · have c_40 := (bI_ne0 _).mp c_40
                      rw [if_pos c_40] at hF
                      refine lv_iconst (v := 1) hx hb dX8_doStored_269 (by decide) ?_
                      refine lv_goto (tgt := 274) hx hb dX8_doStored_270 (by decide) ?_
                      refine pf_X8_80 (x := true) hx hb hown ht hK hP hD hS 0 rfl (Nat.le_of_ble_eq_true rfl) dX8_doStored_274 (fun H locs hP hD hS => ?_)
                      have hP : va_P D vwCl [(a_this, oX8 a_this_bytes a_this_keys a_this_reg a_this_card a_this_filled a_this_taken a_this_line a_this_one a_this_two (o_this.1, o_this.2.1, 1, o_this.2.2.2.1, o_this.2.2.2.2.1, true, o_this.2.2.2.2.2.2.1, o_this.2.2.2.2.2.2.2.1, o_this.2.2.2.2.2.2.2.2.1, o_this.2.2.2.2.2.2.2.2.2.1, o_this.2.2.2.2.2.2.2.2.2.2.1, o_this.2.2.2.2.2.2.2.2.2.2.2.1, o_this.2.2.2.2.2.2.2.2.2.2.2.2.1, o_this.2.2.2.2.2.2.2.2.2.2.2.2.2.1, o_this.2.2.2.2.2.2.2.2.2.2.2.2.2.2.1, o_this.2.2.2.2.2.2.2.2.2.2.2.2.2.2.2.1, o_this.2.2.2.2.2.2.2.2.2.2.2.2.2.2.2.2.1, o_this.2.2.2.2.2.2.2.2.2.2.2.2.2.2.2.2.2.1, o_this.2.2.2.2.2.2.2.2.2.2.2.2.2.2.2.2.2.2.1, o_this.2.2.2.2.2.2.2.2.2.2.2.2.2.2.2.2.2.2.2.1, o_this.2.2.2.2.2.2.2.2.2.2.2.2.2.2.2.2.2.2.2.2.1, o_this.2.2.2.2.2.2.2.2.2.2.2.2.2.2.2.2.2.2.2.2.2.1, o_this.2.2.2.2.2.2.2.2.2.2.2.2.2.2.2.2.2.2.2.2.2.2.1, o_this.2.2.2.2.2.2.2.2.2.2.2.2.2.2.2.2.2.2.2.2.2.2.2.1, o_this.2.2.2.2.2.2.2.2.2.2.2.2.2.2.2.2.2.2.2.2.2.2.2.2)), (a_this_bytes, .inl (k_this_bytes, 2048, .inl r_this_bytes)), (a_this_keys, .inl (k_this_keys, 8, .inl r_this_keys)), (a_this_reg, .inl (k_this_reg, 16, .inl r_this_reg))] H := hP
                      have hD : va_D A [(a_this, oX8 a_this_bytes a_this_keys a_this_reg a_this_card a_this_filled a_this_taken a_this_line a_this_one a_this_two (o_this.1, o_this.2.1, 1, o_this.2.2.2.1, o_this.2.2.2.2.1, true, o_this.2.2.2.2.2.2.1, o_this.2.2.2.2.2.2.2.1, o_this.2.2.2.2.2.2.2.2.1, o_this.2.2.2.2.2.2.2.2.2.1, o_this.2.2.2.2.2.2.2.2.2.2.1, o_this.2.2.2.2.2.2.2.2.2.2.2.1, o_this.2.2.2.2.2.2.2.2.2.2.2.2.1, o_this.2.2.2.2.2.2.2.2.2.2.2.2.2.1, o_this.2.2.2.2.2.2.2.2.2.2.2.2.2.2.1, o_this.2.2.2.2.2.2.2.2.2.2.2.2.2.2.2.1, o_this.2.2.2.2.2.2.2.2.2.2.2.2.2.2.2.2.1, o_this.2.2.2.2.2.2.2.2.2.2.2.2.2.2.2.2.2.1, o_this.2.2.2.2.2.2.2.2.2.2.2.2.2.2.2.2.2.2.1, o_this.2.2.2.2.2.2.2.2.2.2.2.2.2.2.2.2.2.2.2.1, o_this.2.2.2.2.2.2.2.2.2.2.2.2.2.2.2.2.2.2.2.2.1, o_this.2.2.2.2.2.2.2.2.2.2.2.2.2.2.2.2.2.2.2.2.2.1, o_this.2.2.2.2.2.2.2.2.2.2.2.2.2.2.2.2.2.2.2.2.2.2.1, o_this.2.2.2.2.2.2.2.2.2.2.2.2.2.2.2.2.2.2.2.2.2.2.2.1, o_this.2.2.2.2.2.2.2.2.2.2.2.2.2.2.2.2.2.2.2.2.2.2.2.2)), (a_this_bytes, .inl (k_this_bytes, 2048, .inl r_this_bytes)), (a_this_keys, .inl (k_this_keys, 8, .inl r_this_keys)), (a_this_reg, .inl (k_this_reg, 16, .inl r_this_reg))] := hD
                      refine lv_goto (tgt := 323) hx hb dX8_doStored_277 (by decide) ?_
                      exact hQ ((o_this.1, o_this.2.1, 1, o_this.2.2.2.1, o_this.2.2.2.2.1, true, o_this.2.2.2.2.2.2.1, o_this.2.2.2.2.2.2.2.1, o_this.2.2.2.2.2.2.2.2.1, o_this.2.2.2.2.2.2.2.2.2.1, o_this.2.2.2.2.2.2.2.2.2.2.1, o_this.2.2.2.2.2.2.2.2.2.2.2.1, o_this.2.2.2.2.2.2.2.2.2.2.2.2.1, o_this.2.2.2.2.2.2.2.2.2.2.2.2.2.1, o_this.2.2.2.2.2.2.2.2.2.2.2.2.2.2.1, o_this.2.2.2.2.2.2.2.2.2.2.2.2.2.2.2.1, o_this.2.2.2.2.2.2.2.2.2.2.2.2.2.2.2.2.1, o_this.2.2.2.2.2.2.2.2.2.2.2.2.2.2.2.2.2.1, o_this.2.2.2.2.2.2.2.2.2.2.2.2.2.2.2.2.2.2.1, o_this.2.2.2.2.2.2.2.2.2.2.2.2.2.2.2.2.2.2.2.1, o_this.2.2.2.2.2.2.2.2.2.2.2.2.2.2.2.2.2.2.2.2.1, o_this.2.2.2.2.2.2.2.2.2.2.2.2.2.2.2.2.2.2.2.2.2.1, o_this.2.2.2.2.2.2.2.2.2.2.2.2.2.2.2.2.2.2.2.2.2.2.1, o_this.2.2.2.2.2.2.2.2.2.2.2.2.2.2.2.2.2.2.2.2.2.2.2.1, o_this.2.2.2.2.2.2.2.2.2.2.2.2.2.2.2.2.2.2.2.2.2.2.2.2), r_this_bytes, r_this_reg) _ _ _ _ dX8_doStored_323 hF.symm hP hD hS
              · have c_35 := (bI_ne0 _).mp c_35
                rw [if_pos c_35] at hF
                refine lv_iconst (v := 2) hx hb dX8_doStored_235 (by decide) ?_
                refine lv_goto (tgt := 251) hx hb dX8_doStored_236 (by decide) ?_
                refine pf_X8_52 (x := 2) hx hb hown ht hK hP hD hS 0 rfl (Nat.le_of_ble_eq_true rfl) dX8_doStored_251 (fun H locs hP hD hS => ?_)
                have hP : va_P D vwCl [(a_this, oX8 a_this_bytes a_this_keys a_this_reg a_this_card a_this_filled a_this_taken a_this_line a_this_one a_this_two (o_this.1, o_this.2.1, 2, o_this.2.2.2.1, o_this.2.2.2.2.1, o_this.2.2.2.2.2.1, o_this.2.2.2.2.2.2.1, o_this.2.2.2.2.2.2.2.1, o_this.2.2.2.2.2.2.2.2.1, o_this.2.2.2.2.2.2.2.2.2.1, o_this.2.2.2.2.2.2.2.2.2.2.1, o_this.2.2.2.2.2.2.2.2.2.2.2.1, o_this.2.2.2.2.2.2.2.2.2.2.2.2.1, o_this.2.2.2.2.2.2.2.2.2.2.2.2.2.1, o_this.2.2.2.2.2.2.2.2.2.2.2.2.2.2.1, o_this.2.2.2.2.2.2.2.2.2.2.2.2.2.2.2.1, o_this.2.2.2.2.2.2.2.2.2.2.2.2.2.2.2.2.1, o_this.2.2.2.2.2.2.2.2.2.2.2.2.2.2.2.2.2.1, o_this.2.2.2.2.2.2.2.2.2.2.2.2.2.2.2.2.2.2.1, o_this.2.2.2.2.2.2.2.2.2.2.2.2.2.2.2.2.2.2.2.1, o_this.2.2.2.2.2.2.2.2.2.2.2.2.2.2.2.2.2.2.2.2.1, o_this.2.2.2.2.2.2.2.2.2.2.2.2.2.2.2.2.2.2.2.2.2.1, o_this.2.2.2.2.2.2.2.2.2.2.2.2.2.2.2.2.2.2.2.2.2.2.1, o_this.2.2.2.2.2.2.2.2.2.2.2.2.2.2.2.2.2.2.2.2.2.2.2.1, o_this.2.2.2.2.2.2.2.2.2.2.2.2.2.2.2.2.2.2.2.2.2.2.2.2)), (a_this_bytes, .inl (k_this_bytes, 2048, .inl r_this_bytes)), (a_this_keys, .inl (k_this_keys, 8, .inl r_this_keys)), (a_this_reg, .inl (k_this_reg, 16, .inl r_this_reg))] H := hP
                have hD : va_D A [(a_this, oX8 a_this_bytes a_this_keys a_this_reg a_this_card a_this_filled a_this_taken a_this_line a_this_one a_this_two (o_this.1, o_this.2.1, 2, o_this.2.2.2.1, o_this.2.2.2.2.1, o_this.2.2.2.2.2.1, o_this.2.2.2.2.2.2.1, o_this.2.2.2.2.2.2.2.1, o_this.2.2.2.2.2.2.2.2.1, o_this.2.2.2.2.2.2.2.2.2.1, o_this.2.2.2.2.2.2.2.2.2.2.1, o_this.2.2.2.2.2.2.2.2.2.2.2.1, o_this.2.2.2.2.2.2.2.2.2.2.2.2.1, o_this.2.2.2.2.2.2.2.2.2.2.2.2.2.1, o_this.2.2.2.2.2.2.2.2.2.2.2.2.2.2.1, o_this.2.2.2.2.2.2.2.2.2.2.2.2.2.2.2.1, o_this.2.2.2.2.2.2.2.2.2.2.2.2.2.2.2.2.1, o_this.2.2.2.2.2.2.2.2.2.2.2.2.2.2.2.2.2.1, o_this.2.2.2.2.2.2.2.2.2.2.2.2.2.2.2.2.2.2.1, o_this.2.2.2.2.2.2.2.2.2.2.2.2.2.2.2.2.2.2.2.1, o_this.2.2.2.2.2.2.2.2.2.2.2.2.2.2.2.2.2.2.2.2.1, o_this.2.2.2.2.2.2.2.2.2.2.2.2.2.2.2.2.2.2.2.2.2.1, o_this.2.2.2.2.2.2.2.2.2.2.2.2.2.2.2.2.2.2.2.2.2.2.1, o_this.2.2.2.2.2.2.2.2.2.2.2.2.2.2.2.2.2.2.2.2.2.2.2.1, o_this.2.2.2.2.2.2.2.2.2.2.2.2.2.2.2.2.2.2.2.2.2.2.2.2)), (a_this_bytes, .inl (k_this_bytes, 2048, .inl r_this_bytes)), (a_this_keys, .inl (k_this_keys, 8, .inl r_this_keys)), (a_this_reg, .inl (k_this_reg, 16, .inl r_this_reg))] := hD
                refine lv_aload_n hx hb dX8_doStored_254 rfl (lv_at hl 2 rfl) ?_
                refine lv_aload_n hx hb dX8_doStored_255 rfl (lv_at hl 2 rfl) ?_
                refine gf_X8_193 (v := .int (bI o_this.2.2.2.2.2.2.2.2.2.2.1)) hx hb hown ht hK hP 0 rfl rfl dX8_doStored_256 ?_
                refine lv_if_eq (tgt := 273) hx hb dX8_doStored_259 (by decide) (fun c_41 => ?_) (fun c_41 => ?_)
                · have c_41 : ¬ o_this.2.2.2.2.2.2.2.2.2.2.1 = true := by rw [(bI_eq0 _).mp c_41]; decide
                  rw [if_neg c_41] at hF
                  refine lv_iconst (v := 0) hx hb dX8_doStored_273 (by decide) ?_
                  refine pf_X8_80 (x := false) hx hb hown ht hK hP hD hS 0 rfl (Nat.le_of_ble_eq_true rfl) dX8_doStored_274 (fun H locs hP hD hS => ?_)
                  have hP : va_P D vwCl [(a_this, oX8 a_this_bytes a_this_keys a_this_reg a_this_card a_this_filled a_this_taken a_this_line a_this_one a_this_two (o_this.1, o_this.2.1, 2, o_this.2.2.2.1, o_this.2.2.2.2.1, false, o_this.2.2.2.2.2.2.1, o_this.2.2.2.2.2.2.2.1, o_this.2.2.2.2.2.2.2.2.1, o_this.2.2.2.2.2.2.2.2.2.1, o_this.2.2.2.2.2.2.2.2.2.2.1, o_this.2.2.2.2.2.2.2.2.2.2.2.1, o_this.2.2.2.2.2.2.2.2.2.2.2.2.1, o_this.2.2.2.2.2.2.2.2.2.2.2.2.2.1, o_this.2.2.2.2.2.2.2.2.2.2.2.2.2.2.1, o_this.2.2.2.2.2.2.2.2.2.2.2.2.2.2.2.1, o_this.2.2.2.2.2.2.2.2.2.2.2.2.2.2.2.2.1, o_this.2.2.2.2.2.2.2.2.2.2.2.2.2.2.2.2.2.1, o_this.2.2.2.2.2.2.2.2.2.2.2.2.2.2.2.2.2.2.1, o_this.2.2.2.2.2.2.2.2.2.2.2.2.2.2.2.2.2.2.2.1, o_this.2.2.2.2.2.2.2.2.2.2.2.2.2.2.2.2.2.2.2.2.1, o_this.2.2.2.2.2.2.2.2.2.2.2.2.2.2.2.2.2.2.2.2.2.1, o_this.2.2.2.2.2.2.2.2.2.2.2.2.2.2.2.2.2.2.2.2.2.2.1, o_this.2.2.2.2.2.2.2.2.2.2.2.2.2.2.2.2.2.2.2.2.2.2.2.1, o_this.2.2.2.2.2.2.2.2.2.2.2.2.2.2.2.2.2.2.2.2.2.2.2.2)), (a_this_bytes, .inl (k_this_bytes, 2048, .inl r_this_bytes)), (a_this_keys, .inl (k_this_keys, 8, .inl r_this_keys)), (a_this_reg, .inl (k_this_reg, 16, .inl r_this_reg))] H := hP
                  have hD : va_D A [(a_this, oX8 a_this_bytes a_this_keys a_this_reg a_this_card a_this_filled a_this_taken a_this_line a_this_one a_this_two (o_this.1, o_this.2.1, 2, o_this.2.2.2.1, o_this.2.2.2.2.1, false, o_this.2.2.2.2.2.2.1, o_this.2.2.2.2.2.2.2.1, o_this.2.2.2.2.2.2.2.2.1, o_this.2.2.2.2.2.2.2.2.2.1, o_this.2.2.2.2.2.2.2.2.2.2.1, o_this.2.2.2.2.2.2.2.2.2.2.2.1, o_this.2.2.2.2.2.2.2.2.2.2.2.2.1, o_this.2.2.2.2.2.2.2.2.2.2.2.2.2.1, o_this.2.2.2.2.2.2.2.2.2.2.2.2.2.2.1, o_this.2.2.2.2.2.2.2.2.2.2.2.2.2.2.2.1, o_this.2.2.2.2.2.2.2.2.2.2.2.2.2.2.2.2.1, o_this.2.2.2.2.2.2.2.2.2.2.2.2.2.2.2.2.2.1, o_this.2.2.2.2.2.2.2.2.2.2.2.2.2.2.2.2.2.2.1, o_this.2.2.2.2.2.2.2.2.2.2.2.2.2.2.2.2.2.2.2.1, o_this.2.2.2.2.2.2.2.2.2.2.2.2.2.2.2.2.2.2.2.2.1, o_this.2.2.2.2.2.2.2.2.2.2.2.2.2.2.2.2.2.2.2.2.2.1, o_this.2.2.2.2.2.2.2.2.2.2.2.2.2.2.2.2.2.2.2.2.2.2.1, o_this.2.2.2.2.2.2.2.2.2.2.2.2.2.2.2.2.2.2.2.2.2.2.2.1, o_this.2.2.2.2.2.2.2.2.2.2.2.2.2.2.2.2.2.2.2.2.2.2.2.2)), (a_this_bytes, .inl (k_this_bytes, 2048, .inl r_this_bytes)), (a_this_keys, .inl (k_this_keys, 8, .inl r_this_keys)), (a_this_reg, .inl (k_this_reg, 16, .inl r_this_reg))] := hD
                  refine lv_goto (tgt := 323) hx hb dX8_doStored_277 (by decide) ?_
                  exact hQ ((o_this.1, o_this.2.1, 2, o_this.2.2.2.1, o_this.2.2.2.2.1, false, o_this.2.2.2.2.2.2.1, o_this.2.2.2.2.2.2.2.1, o_this.2.2.2.2.2.2.2.2.1, o_this.2.2.2.2.2.2.2.2.2.1, o_this.2.2.2.2.2.2.2.2.2.2.1, o_this.2.2.2.2.2.2.2.2.2.2.2.1, o_this.2.2.2.2.2.2.2.2.2.2.2.2.1, o_this.2.2.2.2.2.2.2.2.2.2.2.2.2.1, o_this.2.2.2.2.2.2.2.2.2.2.2.2.2.2.1, o_this.2.2.2.2.2.2.2.2.2.2.2.2.2.2.2.1, o_this.2.2.2.2.2.2.2.2.2.2.2.2.2.2.2.2.1, o_this.2.2.2.2.2.2.2.2.2.2.2.2.2.2.2.2.2.1, o_this.2.2.2.2.2.2.2.2.2.2.2.2.2.2.2.2.2.2.1, o_this.2.2.2.2.2.2.2.2.2.2.2.2.2.2.2.2.2.2.2.1, o_this.2.2.2.2.2.2.2.2.2.2.2.2.2.2.2.2.2.2.2.2.1, o_this.2.2.2.2.2.2.2.2.2.2.2.2.2.2.2.2.2.2.2.2.2.1, o_this.2.2.2.2.2.2.2.2.2.2.2.2.2.2.2.2.2.2.2.2.2.2.1, o_this.2.2.2.2.2.2.2.2.2.2.2.2.2.2.2.2.2.2.2.2.2.2.2.1, o_this.2.2.2.2.2.2.2.2.2.2.2.2.2.2.2.2.2.2.2.2.2.2.2.2), r_this_bytes, r_this_reg) _ _ _ _ dX8_doStored_323 hF.symm hP hD hS
                · have c_41 := (bI_ne0 _).mp c_41
                  rw [if_pos c_41] at hF
                  refine lv_aload_n hx hb dX8_doStored_262 rfl (lv_at hl 2 rfl) ?_
                  refine gf_X8_80 (v := .int (bI o_this.2.2.2.2.2.1)) hx hb hown ht hK hP 0 rfl rfl dX8_doStored_263 ?_
                  refine lv_if_eq (tgt := 273) hx hb dX8_doStored_266 (by decide) (fun c_42 => ?_) (fun c_42 => ?_)
                  · have c_42 : ¬ o_this.2.2.2.2.2.1 = true := by rw [(bI_eq0 _).mp c_42]; decide
                    rw [if_neg c_42] at hF
                    refine lv_iconst (v := 0) hx hb dX8_doStored_273 (by decide) ?_
                    refine pf_X8_80 (x := false) hx hb hown ht hK hP hD hS 0 rfl (Nat.le_of_ble_eq_true rfl) dX8_doStored_274 (fun H locs hP hD hS => ?_)
                    have hP : va_P D vwCl [(a_this, oX8 a_this_bytes a_this_keys a_this_reg a_this_card a_this_filled a_this_taken a_this_line a_this_one a_this_two (o_this.1, o_this.2.1, 2, o_this.2.2.2.1, o_this.2.2.2.2.1, false, o_this.2.2.2.2.2.2.1, o_this.2.2.2.2.2.2.2.1, o_this.2.2.2.2.2.2.2.2.1, o_this.2.2.2.2.2.2.2.2.2.1, o_this.2.2.2.2.2.2.2.2.2.2.1, o_this.2.2.2.2.2.2.2.2.2.2.2.1, o_this.2.2.2.2.2.2.2.2.2.2.2.2.1, o_this.2.2.2.2.2.2.2.2.2.2.2.2.2.1, o_this.2.2.2.2.2.2.2.2.2.2.2.2.2.2.1, o_this.2.2.2.2.2.2.2.2.2.2.2.2.2.2.2.1, o_this.2.2.2.2.2.2.2.2.2.2.2.2.2.2.2.2.1, o_this.2.2.2.2.2.2.2.2.2.2.2.2.2.2.2.2.2.1, o_this.2.2.2.2.2.2.2.2.2.2.2.2.2.2.2.2.2.2.1, o_this.2.2.2.2.2.2.2.2.2.2.2.2.2.2.2.2.2.2.2.1, o_this.2.2.2.2.2.2.2.2.2.2.2.2.2.2.2.2.2.2.2.2.1, o_this.2.2.2.2.2.2.2.2.2.2.2.2.2.2.2.2.2.2.2.2.2.1, o_this.2.2.2.2.2.2.2.2.2.2.2.2.2.2.2.2.2.2.2.2.2.2.1, o_this.2.2.2.2.2.2.2.2.2.2.2.2.2.2.2.2.2.2.2.2.2.2.2.1, o_this.2.2.2.2.2.2.2.2.2.2.2.2.2.2.2.2.2.2.2.2.2.2.2.2)), (a_this_bytes, .inl (k_this_bytes, 2048, .inl r_this_bytes)), (a_this_keys, .inl (k_this_keys, 8, .inl r_this_keys)), (a_this_reg, .inl (k_this_reg, 16, .inl r_this_reg))] H := hP
                    have hD : va_D A [(a_this, oX8 a_this_bytes a_this_keys a_this_reg a_this_card a_this_filled a_this_taken a_this_line a_this_one a_this_two (o_this.1, o_this.2.1, 2, o_this.2.2.2.1, o_this.2.2.2.2.1, false, o_this.2.2.2.2.2.2.1, o_this.2.2.2.2.2.2.2.1, o_this.2.2.2.2.2.2.2.2.1, o_this.2.2.2.2.2.2.2.2.2.1, o_this.2.2.2.2.2.2.2.2.2.2.1, o_this.2.2.2.2.2.2.2.2.2.2.2.1, o_this.2.2.2.2.2.2.2.2.2.2.2.2.1, o_this.2.2.2.2.2.2.2.2.2.2.2.2.2.1, o_this.2.2.2.2.2.2.2.2.2.2.2.2.2.2.1, o_this.2.2.2.2.2.2.2.2.2.2.2.2.2.2.2.1, o_this.2.2.2.2.2.2.2.2.2.2.2.2.2.2.2.2.1, o_this.2.2.2.2.2.2.2.2.2.2.2.2.2.2.2.2.2.1, o_this.2.2.2.2.2.2.2.2.2.2.2.2.2.2.2.2.2.2.1, o_this.2.2.2.2.2.2.2.2.2.2.2.2.2.2.2.2.2.2.2.1, o_this.2.2.2.2.2.2.2.2.2.2.2.2.2.2.2.2.2.2.2.2.1, o_this.2.2.2.2.2.2.2.2.2.2.2.2.2.2.2.2.2.2.2.2.2.1, o_this.2.2.2.2.2.2.2.2.2.2.2.2.2.2.2.2.2.2.2.2.2.2.1, o_this.2.2.2.2.2.2.2.2.2.2.2.2.2.2.2.2.2.2.2.2.2.2.2.1, o_this.2.2.2.2.2.2.2.2.2.2.2.2.2.2.2.2.2.2.2.2.2.2.2.2)), (a_this_bytes, .inl (k_this_bytes, 2048, .inl r_this_bytes)), (a_this_keys, .inl (k_this_keys, 8, .inl r_this_keys)), (a_this_reg, .inl (k_this_reg, 16, .inl r_this_reg))] := hD
                    refine lv_goto (tgt := 323) hx hb dX8_doStored_277 (by decide) ?_
                    exact hQ ((o_this.1, o_this.2.1, 2, o_this.2.2.2.1, o_this.2.2.2.2.1, false, o_this.2.2.2.2.2.2.1, o_this.2.2.2.2.2.2.2.1, o_this.2.2.2.2.2.2.2.2.1, o_this.2.2.2.2.2.2.2.2.2.1, o_this.2.2.2.2.2.2.2.2.2.2.1, o_this.2.2.2.2.2.2.2.2.2.2.2.1, o_this.2.2.2.2.2.2.2.2.2.2.2.2.1, o_this.2.2.2.2.2.2.2.2.2.2.2.2.2.1, o_this.2.2.2.2.2.2.2.2.2.2.2.2.2.2.1, o_this.2.2.2.2.2.2.2.2.2.2.2.2.2.2.2.1, o_this.2.2.2.2.2.2.2.2.2.2.2.2.2.2.2.2.1, o_this.2.2.2.2.2.2.2.2.2.2.2.2.2.2.2.2.2.1, o_this.2.2.2.2.2.2.2.2.2.2.2.2.2.2.2.2.2.2.1, o_this.2.2.2.2.2.2.2.2.2.2.2.2.2.2.2.2.2.2.2.1, o_this.2.2.2.2.2.2.2.2.2.2.2.2.2.2.2.2.2.2.2.2.1, o_this.2.2.2.2.2.2.2.2.2.2.2.2.2.2.2.2.2.2.2.2.2.1, o_this.2.2.2.2.2.2.2.2.2.2.2.2.2.2.2.2.2.2.2.2.2.2.1, o_this.2.2.2.2.2.2.2.2.2.2.2.2.2.2.2.2.2.2.2.2.2.2.2.1, o_this.2.2.2.2.2.2.2.2.2.2.2.2.2.2.2.2.2.2.2.2.2.2.2.2), r_this_bytes, r_this_reg) _ _ _ _ dX8_doStored_323 hF.symm hP hD hS
                  · have c_42 := (bI_ne0 _).mp c_42
                    rw [if_pos c_42] at hF
                    refine lv_iconst (v := 1) hx hb dX8_doStored_269 (by decide) ?_
                    refine lv_goto (tgt := 274) hx hb dX8_doStored_270 (by decide) ?_
                    refine pf_X8_80 (x := true) hx hb hown ht hK hP hD hS 0 rfl (Nat.le_of_ble_eq_true rfl) dX8_doStored_274 (fun H locs hP hD hS => ?_)
                    have hP : va_P D vwCl [(a_this, oX8 a_this_bytes a_this_keys a_this_reg a_this_card a_this_filled a_this_taken a_this_line a_this_one a_this_two (o_this.1, o_this.2.1, 2, o_this.2.2.2.1, o_this.2.2.2.2.1, true, o_this.2.2.2.2.2.2.1, o_this.2.2.2.2.2.2.2.1, o_this.2.2.2.2.2.2.2.2.1, o_this.2.2.2.2.2.2.2.2.2.1, o_this.2.2.2.2.2.2.2.2.2.2.1, o_this.2.2.2.2.2.2.2.2.2.2.2.1, o_this.2.2.2.2.2.2.2.2.2.2.2.2.1, o_this.2.2.2.2.2.2.2.2.2.2.2.2.2.1, o_this.2.2.2.2.2.2.2.2.2.2.2.2.2.2.1, o_this.2.2.2.2.2.2.2.2.2.2.2.2.2.2.2.1, o_this.2.2.2.2.2.2.2.2.2.2.2.2.2.2.2.2.1, o_this.2.2.2.2.2.2.2.2.2.2.2.2.2.2.2.2.2.1, o_this.2.2.2.2.2.2.2.2.2.2.2.2.2.2.2.2.2.2.1, o_this.2.2.2.2.2.2.2.2.2.2.2.2.2.2.2.2.2.2.2.1, o_this.2.2.2.2.2.2.2.2.2.2.2.2.2.2.2.2.2.2.2.2.1, o_this.2.2.2.2.2.2.2.2.2.2.2.2.2.2.2.2.2.2.2.2.2.1, o_this.2.2.2.2.2.2.2.2.2.2.2.2.2.2.2.2.2.2.2.2.2.2.1, o_this.2.2.2.2.2.2.2.2.2.2.2.2.2.2.2.2.2.2.2.2.2.2.2.1, o_this.2.2.2.2.2.2.2.2.2.2.2.2.2.2.2.2.2.2.2.2.2.2.2.2)), (a_this_bytes, .inl (k_this_bytes, 2048, .inl r_this_bytes)), (a_this_keys, .inl (k_this_keys, 8, .inl r_this_keys)), (a_this_reg, .inl (k_this_reg, 16, .inl r_this_reg))] H := hP
                    have hD : va_D A [(a_this, oX8 a_this_bytes a_this_keys a_this_reg a_this_card a_this_filled a_this_taken a_this_line a_this_one a_this_two (o_this.1, o_this.2.1, 2, o_this.2.2.2.1, o_this.2.2.2.2.1, true, o_this.2.2.2.2.2.2.1, o_this.2.2.2.2.2.2.2.1, o_this.2.2.2.2.2.2.2.2.1, o_this.2.2.2.2.2.2.2.2.2.1, o_this.2.2.2.2.2.2.2.2.2.2.1, o_this.2.2.2.2.2.2.2.2.2.2.2.1, o_this.2.2.2.2.2.2.2.2.2.2.2.2.1, o_this.2.2.2.2.2.2.2.2.2.2.2.2.2.1, o_this.2.2.2.2.2.2.2.2.2.2.2.2.2.2.1, o_this.2.2.2.2.2.2.2.2.2.2.2.2.2.2.2.1, o_this.2.2.2.2.2.2.2.2.2.2.2.2.2.2.2.2.1, o_this.2.2.2.2.2.2.2.2.2.2.2.2.2.2.2.2.2.1, o_this.2.2.2.2.2.2.2.2.2.2.2.2.2.2.2.2.2.2.1, o_this.2.2.2.2.2.2.2.2.2.2.2.2.2.2.2.2.2.2.2.1, o_this.2.2.2.2.2.2.2.2.2.2.2.2.2.2.2.2.2.2.2.2.1, o_this.2.2.2.2.2.2.2.2.2.2.2.2.2.2.2.2.2.2.2.2.2.1, o_this.2.2.2.2.2.2.2.2.2.2.2.2.2.2.2.2.2.2.2.2.2.2.1, o_this.2.2.2.2.2.2.2.2.2.2.2.2.2.2.2.2.2.2.2.2.2.2.2.1, o_this.2.2.2.2.2.2.2.2.2.2.2.2.2.2.2.2.2.2.2.2.2.2.2.2)), (a_this_bytes, .inl (k_this_bytes, 2048, .inl r_this_bytes)), (a_this_keys, .inl (k_this_keys, 8, .inl r_this_keys)), (a_this_reg, .inl (k_this_reg, 16, .inl r_this_reg))] := hD
                    refine lv_goto (tgt := 323) hx hb dX8_doStored_277 (by decide) ?_
                    exact hQ ((o_this.1, o_this.2.1, 2, o_this.2.2.2.1, o_this.2.2.2.2.1, true, o_this.2.2.2.2.2.2.1, o_this.2.2.2.2.2.2.2.1, o_this.2.2.2.2.2.2.2.2.1, o_this.2.2.2.2.2.2.2.2.2.1, o_this.2.2.2.2.2.2.2.2.2.2.1, o_this.2.2.2.2.2.2.2.2.2.2.2.1, o_this.2.2.2.2.2.2.2.2.2.2.2.2.1, o_this.2.2.2.2.2.2.2.2.2.2.2.2.2.1, o_this.2.2.2.2.2.2.2.2.2.2.2.2.2.2.1, o_this.2.2.2.2.2.2.2.2.2.2.2.2.2.2.2.1, o_this.2.2.2.2.2.2.2.2.2.2.2.2.2.2.2.2.1, o_this.2.2.2.2.2.2.2.2.2.2.2.2.2.2.2.2.2.1, o_this.2.2.2.2.2.2.2.2.2.2.2.2.2.2.2.2.2.2.1, o_this.2.2.2.2.2.2.2.2.2.2.2.2.2.2.2.2.2.2.2.1, o_this.2.2.2.2.2.2.2.2.2.2.2.2.2.2.2.2.2.2.2.2.1, o_this.2.2.2.2.2.2.2.2.2.2.2.2.2.2.2.2.2.2.2.2.2.1, o_this.2.2.2.2.2.2.2.2.2.2.2.2.2.2.2.2.2.2.2.2.2.2.1, o_this.2.2.2.2.2.2.2.2.2.2.2.2.2.2.2.2.2.2.2.2.2.2.2.1, o_this.2.2.2.2.2.2.2.2.2.2.2.2.2.2.2.2.2.2.2.2.2.2.2.2), r_this_bytes, r_this_reg) _ _ _ _ dX8_doStored_323 hF.symm hP hD hS
          · skip
            rw [if_pos c_10] at hF
            rw [if_pos c_10] at hs
            refine lv_aload_n hx hb dX8_doStored_212 rfl (lv_at hl 2 rfl) ?_
            refine lv_iload_n hx hb dX8_doStored_213 rfl (lv_at hl 4 rfl) ?_
            have hi_43 := hs
            refine q_Vv (rest := []) (c_X8_begin l D a_this a_this_bytes a_this_keys a_this_reg a_this_card a_this_filled a_this_taken a_this_line a_this_one a_this_two k_this_bytes o_this r_this_bytes p2 hi_43) cv_X8_begin hx hb hml hown ht hN hK hA hP hD hS hl.1 (km_X8_190) ⟨Nat.le_of_ble_eq_true rfl, Nat.le_of_ble_eq_true rfl⟩ rfl rfl [0, 1] (by decide) rfl [0] rfl (fun _ => rfl) (ci := 8) rfl rfl rfl rfl rfl (Nat.le_of_ble_eq_true rfl) dX8_doStored_214 ⟨Nat.zero_le _, Nat.zero_le _⟩ (fun w_44 H locs hw hP hD hS => ?_)
            have hP : va_P D vwCl [(a_this, oX8 a_this_bytes a_this_keys a_this_reg a_this_card a_this_filled a_this_taken a_this_line a_this_one a_this_two w_44), (a_this_bytes, .inl (k_this_bytes, 2048, .inl r_this_bytes)), (a_this_keys, .inl (k_this_keys, 8, .inl r_this_keys)), (a_this_reg, .inl (k_this_reg, 16, .inl r_this_reg))] H := hP
            have hD : va_D A [(a_this, oX8 a_this_bytes a_this_keys a_this_reg a_this_card a_this_filled a_this_taken a_this_line a_this_one a_this_two w_44), (a_this_bytes, .inl (k_this_bytes, 2048, .inl r_this_bytes)), (a_this_keys, .inl (k_this_keys, 8, .inl r_this_keys)), (a_this_reg, .inl (k_this_reg, 16, .inl r_this_reg))] := hD
            rw [q_let_of hw] at hF
            refine lv_goto (tgt := 323) hx hb dX8_doStored_217 (by decide) ?_
            exact hQ (w_44, r_this_bytes, r_this_reg) _ _ _ _ dX8_doStored_323 hF.symm hP hD hS
        · skip
          rw [if_pos c_9] at hF
          rw [if_pos c_9] at hs
          refine lv_aload_n hx hb dX8_doStored_184 rfl (lv_at hl 2 rfl) ?_
          refine lv_iload_n hx hb dX8_doStored_185 rfl (lv_at hl 5 rfl) ?_
          refine lv_bipush (v := 8) hx hb dX8_doStored_186 (by decide) ?_
          refine lv_bipush (v := 8) hx hb dX8_doStored_188 (by decide) ?_
          refine lv_iconst (v := 0) hx hb dX8_doStored_190 (by decide) ?_
          obtain ⟨hi_45, hs⟩ := hs
          refine q_Vi (rest := []) (c_X8_good l D a_this a_this_keys a_this_bytes a_this_reg a_this_card a_this_filled a_this_taken a_this_line a_this_one a_this_two k_this_keys o_this r_this_keys p3 8 8 false hi_45) cv_X8_good hx hb hml hown ht hN hK hA hP hD hS hl.1 (km_X8_158) ⟨Nat.le_of_ble_eq_true rfl, Nat.le_of_ble_eq_true rfl⟩ rfl rfl [0, 2] (by decide) rfl [1] rfl (fun _ => rfl) (ci := 8) rfl rfl rfl rfl rfl (Nat.le_of_ble_eq_true rfl) dX8_doStored_191 ⟨Nat.zero_le _, Nat.zero_le _⟩ (fun r w_46 H locs hw hP hD hS => ?_)
          obtain ⟨hw, hr⟩ := hw
          subst hr
          have hP : va_P D vwCl [(a_this, oX8 a_this_bytes a_this_keys a_this_reg a_this_card a_this_filled a_this_taken a_this_line a_this_one a_this_two w_46.2), (a_this_bytes, .inl (k_this_bytes, 2048, .inl r_this_bytes)), (a_this_keys, .inl (k_this_keys, 8, .inl r_this_keys)), (a_this_reg, .inl (k_this_reg, 16, .inl r_this_reg))] H := hP
          have hD : va_D A [(a_this, oX8 a_this_bytes a_this_keys a_this_reg a_this_card a_this_filled a_this_taken a_this_line a_this_one a_this_two w_46.2), (a_this_bytes, .inl (k_this_bytes, 2048, .inl r_this_bytes)), (a_this_keys, .inl (k_this_keys, 8, .inl r_this_keys)), (a_this_reg, .inl (k_this_reg, 16, .inl r_this_reg))] := hD
          rw [q_let_of hw] at hF
          rw [q_let_of hw] at hs
          refine lv_if_eq (tgt := 323) hx hb dX8_doStored_194 (by decide) (fun c_47 => ?_) (fun c_47 => ?_)
          · have c_47 : ¬ w_46.1 = true := by rw [(bI_eq0 _).mp c_47]; decide
            rw [if_neg c_47] at hF
            rw [if_neg c_47] at hs
            exact hQ (w_46.2, r_this_bytes, r_this_reg) _ _ _ _ dX8_doStored_323 hF.symm hP hD hS
          · have c_47 := (bI_ne0 _).mp c_47
            rw [if_pos c_47] at hF
            rw [if_pos c_47] at hs
            refine lv_aload_n hx hb dX8_doStored_197 rfl (lv_at hl 2 rfl) ?_
            refine lv_iload_n hx hb dX8_doStored_198 rfl (lv_at hl 5 rfl) ?_
            have hi_48 := hs
            refine q_Vv (rest := []) (c_X8_loadStatus l D a_this a_this_bytes a_this_keys a_this_reg a_this_card a_this_filled a_this_taken a_this_line a_this_one a_this_two k_this_bytes w_46.2 r_this_bytes p3 hi_48) cv_X8_loadStatus hx hb hml hown ht hN hK hA hP hD hS hl.1 (km_X8_62) ⟨Nat.le_of_ble_eq_true rfl, Nat.le_of_ble_eq_true rfl⟩ rfl rfl [0, 1] (by decide) rfl [0] rfl (fun _ => rfl) (ci := 8) rfl rfl rfl rfl rfl (Nat.le_of_ble_eq_true rfl) dX8_doStored_199 ⟨Nat.zero_le _, Nat.zero_le _⟩ (fun w_49 H locs hw hP hD hS => ?_)
            have hP : va_P D vwCl [(a_this, oX8 a_this_bytes a_this_keys a_this_reg a_this_card a_this_filled a_this_taken a_this_line a_this_one a_this_two w_49), (a_this_bytes, .inl (k_this_bytes, 2048, .inl r_this_bytes)), (a_this_keys, .inl (k_this_keys, 8, .inl r_this_keys)), (a_this_reg, .inl (k_this_reg, 16, .inl r_this_reg))] H := hP
            have hD : va_D A [(a_this, oX8 a_this_bytes a_this_keys a_this_reg a_this_card a_this_filled a_this_taken a_this_line a_this_one a_this_two w_49), (a_this_bytes, .inl (k_this_bytes, 2048, .inl r_this_bytes)), (a_this_keys, .inl (k_this_keys, 8, .inl r_this_keys)), (a_this_reg, .inl (k_this_reg, 16, .inl r_this_reg))] := hD
            rw [q_let_of hw] at hF
            refine lv_goto (tgt := 323) hx hb dX8_doStored_202 (by decide) ?_
            exact hQ (w_49, r_this_bytes, r_this_reg) _ _ _ _ dX8_doStored_323 hF.symm hP hD hS
      · skip
        rw [if_pos c_8] at hF
        rw [if_pos c_8] at hs
        refine lv_aload_n hx hb dX8_doStored_140 rfl (lv_at hl 2 rfl) ?_
        refine lv_iload_n hx hb dX8_doStored_141 rfl (lv_at hl 3 rfl) ?_
        refine lv_sipush (v := 144) hx hb dX8_doStored_142 (by decide) ?_
        refine lv_icmp_ne (tgt := 152) hx hb dX8_doStored_145 (by decide) (fun c_50 => ?_) (fun c_50 => ?_)
        · skip
          rw [if_neg c_50] at hF
          rw [if_neg c_50] at hs
          refine lv_iconst (v := 0) hx hb dX8_doStored_152 (by decide) ?_
          refine lv_iload hx hb dX8_doStored_153 (lv_at hl 1 rfl) ?_
          refine lv_iload_n hx hb dX8_doStored_155 rfl (lv_at hl 4 rfl) ?_
          refine lv_bipush (v := 16) hx hb dX8_doStored_156 (by decide) ?_
          refine lv_irem hx hb dX8_doStored_158 (by decide) ?_
          refine lv_iload hx hb dX8_doStored_159 (lv_at hl 1 rfl) ?_
          refine lv_isub hx hb dX8_doStored_161 ?_
          refine lv_bipush (v := 16) hx hb dX8_doStored_162 (by decide) ?_
          refine lv_iadd hx hb dX8_doStored_164 ?_
          refine lv_bipush (v := 16) hx hb dX8_doStored_165 (by decide) ?_
          refine lv_irem hx hb dX8_doStored_167 (by decide) ?_
          refine lv_iconst (v := 1) hx hb dX8_doStored_168 (by decide) ?_
          refine lv_iadd hx hb dX8_doStored_169 ?_
          refine lv_iload_n hx hb dX8_doStored_170 rfl (lv_at hl 5 rfl) ?_
          have hi_51 := hs
          refine q_Vv (rest := []) (c_X8_several l D a_this a_this_bytes a_this_keys a_this_reg a_this_card a_this_filled a_this_taken a_this_line a_this_one a_this_two k_this_bytes k_this_keys k_this_reg o_this r_this_bytes r_this_keys r_this_reg false (p2 / (16 : Int32)) (((((p2 - p2 / (16 : Int32) * (16 : Int32)) - (p2 / (16 : Int32))) + (16 : Int32)) - (((p2 - p2 / (16 : Int32) * (16 : Int32)) - (p2 / (16 : Int32))) + (16 : Int32)) / (16 : Int32) * (16 : Int32)) + (1 : Int32)) p3 hi_51) cv_X8_several hx hb hml hown ht hN hK hA hP hD hS hl.1 (km_X8_186) ⟨Nat.le_of_ble_eq_true rfl, Nat.le_of_ble_eq_true rfl⟩ rfl rfl [0, 1, 2, 3] (by decide) rfl [0, 1, 2] rfl (fun _ => rfl) (ci := 8) rfl rfl rfl rfl rfl (Nat.le_of_ble_eq_true rfl) dX8_doStored_171 ⟨Nat.zero_le _, Nat.zero_le _⟩ (fun w_52 H locs hw hP hD hS => ?_)
          have hP : va_P D vwCl [(a_this, oX8 a_this_bytes a_this_keys a_this_reg a_this_card a_this_filled a_this_taken a_this_line a_this_one a_this_two w_52.1), (a_this_bytes, .inl (k_this_bytes, 2048, .inl w_52.2.1)), (a_this_keys, .inl (k_this_keys, 8, .inl r_this_keys)), (a_this_reg, .inl (k_this_reg, 16, .inl w_52.2.2))] H := hP
          have hD : va_D A [(a_this, oX8 a_this_bytes a_this_keys a_this_reg a_this_card a_this_filled a_this_taken a_this_line a_this_one a_this_two w_52.1), (a_this_bytes, .inl (k_this_bytes, 2048, .inl w_52.2.1)), (a_this_keys, .inl (k_this_keys, 8, .inl r_this_keys)), (a_this_reg, .inl (k_this_reg, 16, .inl w_52.2.2))] := hD
          rw [q_let_of hw] at hF
          refine lv_goto (tgt := 323) hx hb dX8_doStored_174 (by decide) ?_
          exact hQ (w_52.1, w_52.2.1, w_52.2.2) _ _ _ _ dX8_doStored_323 hF.symm hP hD hS
        · skip
          rw [if_pos c_50] at hF
          rw [if_pos c_50] at hs
          refine lv_iconst (v := 1) hx hb dX8_doStored_148 (by decide) ?_
          refine lv_goto (tgt := 153) hx hb dX8_doStored_149 (by decide) ?_
          refine lv_iload hx hb dX8_doStored_153 (lv_at hl 1 rfl) ?_
          refine lv_iload_n hx hb dX8_doStored_155 rfl (lv_at hl 4 rfl) ?_
          refine lv_bipush (v := 16) hx hb dX8_doStored_156 (by decide) ?_
          refine lv_irem hx hb dX8_doStored_158 (by decide) ?_
          refine lv_iload hx hb dX8_doStored_159 (lv_at hl 1 rfl) ?_
          refine lv_isub hx hb dX8_doStored_161 ?_
          refine lv_bipush (v := 16) hx hb dX8_doStored_162 (by decide) ?_
          refine lv_iadd hx hb dX8_doStored_164 ?_
          refine lv_bipush (v := 16) hx hb dX8_doStored_165 (by decide) ?_
          refine lv_irem hx hb dX8_doStored_167 (by decide) ?_
          refine lv_iconst (v := 1) hx hb dX8_doStored_168 (by decide) ?_
          refine lv_iadd hx hb dX8_doStored_169 ?_
          refine lv_iload_n hx hb dX8_doStored_170 rfl (lv_at hl 5 rfl) ?_
          have hi_53 := hs
          refine q_Vv (rest := []) (c_X8_several l D a_this a_this_bytes a_this_keys a_this_reg a_this_card a_this_filled a_this_taken a_this_line a_this_one a_this_two k_this_bytes k_this_keys k_this_reg o_this r_this_bytes r_this_keys r_this_reg true (p2 / (16 : Int32)) (((((p2 - p2 / (16 : Int32) * (16 : Int32)) - (p2 / (16 : Int32))) + (16 : Int32)) - (((p2 - p2 / (16 : Int32) * (16 : Int32)) - (p2 / (16 : Int32))) + (16 : Int32)) / (16 : Int32) * (16 : Int32)) + (1 : Int32)) p3 hi_53) cv_X8_several hx hb hml hown ht hN hK hA hP hD hS hl.1 (km_X8_186) ⟨Nat.le_of_ble_eq_true rfl, Nat.le_of_ble_eq_true rfl⟩ rfl rfl [0, 1, 2, 3] (by decide) rfl [0, 1, 2] rfl (fun _ => rfl) (ci := 8) rfl rfl rfl rfl rfl (Nat.le_of_ble_eq_true rfl) dX8_doStored_171 ⟨Nat.zero_le _, Nat.zero_le _⟩ (fun w_54 H locs hw hP hD hS => ?_)
          have hP : va_P D vwCl [(a_this, oX8 a_this_bytes a_this_keys a_this_reg a_this_card a_this_filled a_this_taken a_this_line a_this_one a_this_two w_54.1), (a_this_bytes, .inl (k_this_bytes, 2048, .inl w_54.2.1)), (a_this_keys, .inl (k_this_keys, 8, .inl r_this_keys)), (a_this_reg, .inl (k_this_reg, 16, .inl w_54.2.2))] H := hP
          have hD : va_D A [(a_this, oX8 a_this_bytes a_this_keys a_this_reg a_this_card a_this_filled a_this_taken a_this_line a_this_one a_this_two w_54.1), (a_this_bytes, .inl (k_this_bytes, 2048, .inl w_54.2.1)), (a_this_keys, .inl (k_this_keys, 8, .inl r_this_keys)), (a_this_reg, .inl (k_this_reg, 16, .inl w_54.2.2))] := hD
          rw [q_let_of hw] at hF
          refine lv_goto (tgt := 323) hx hb dX8_doStored_174 (by decide) ?_
          exact hQ (w_54.1, w_54.2.1, w_54.2.2) _ _ _ _ dX8_doStored_323 hF.symm hP hD hS
  · skip
    rw [if_neg c_1] at hF
    rw [if_neg c_1] at hs
    refine lv_iload_n hx hb dX8_doStored_19 rfl (lv_at hl 3 rfl) ?_
    refine lv_sipush (v := 139) hx hb dX8_doStored_20 (by decide) ?_
    refine lv_icmp_ge (tgt := 126) hx hb dX8_doStored_23 (by decide) (fun c_55 => ?_) (fun c_55 => ?_)
    · skip
      rw [if_pos c_55] at hF
      rw [if_pos c_55] at hs
      refine lv_iload_n hx hb dX8_doStored_126 rfl (lv_at hl 3 rfl) ?_
      refine lv_sipush (v := 144) hx hb dX8_doStored_127 (by decide) ?_
      refine lv_icmp_eq (tgt := 140) hx hb dX8_doStored_130 (by decide) (fun c_56 => ?_) (fun c_56 => ?_)
      · skip
        rw [if_pos c_56] at hF
        rw [if_pos c_56] at hs
        refine lv_aload_n hx hb dX8_doStored_140 rfl (lv_at hl 2 rfl) ?_
        refine lv_iload_n hx hb dX8_doStored_141 rfl (lv_at hl 3 rfl) ?_
        refine lv_sipush (v := 144) hx hb dX8_doStored_142 (by decide) ?_
        refine lv_icmp_ne (tgt := 152) hx hb dX8_doStored_145 (by decide) (fun c_57 => ?_) (fun c_57 => ?_)
        · skip
          rw [if_neg c_57] at hF
          rw [if_neg c_57] at hs
          refine lv_iconst (v := 0) hx hb dX8_doStored_152 (by decide) ?_
          refine lv_iload hx hb dX8_doStored_153 (lv_at hl 1 rfl) ?_
          refine lv_iload_n hx hb dX8_doStored_155 rfl (lv_at hl 4 rfl) ?_
          refine lv_bipush (v := 16) hx hb dX8_doStored_156 (by decide) ?_
          refine lv_irem hx hb dX8_doStored_158 (by decide) ?_
          refine lv_iload hx hb dX8_doStored_159 (lv_at hl 1 rfl) ?_
          refine lv_isub hx hb dX8_doStored_161 ?_
          refine lv_bipush (v := 16) hx hb dX8_doStored_162 (by decide) ?_
          refine lv_iadd hx hb dX8_doStored_164 ?_
          refine lv_bipush (v := 16) hx hb dX8_doStored_165 (by decide) ?_
          refine lv_irem hx hb dX8_doStored_167 (by decide) ?_
          refine lv_iconst (v := 1) hx hb dX8_doStored_168 (by decide) ?_
          refine lv_iadd hx hb dX8_doStored_169 ?_
          refine lv_iload_n hx hb dX8_doStored_170 rfl (lv_at hl 5 rfl) ?_
          have hi_58 := hs
          refine q_Vv (rest := []) (c_X8_several l D a_this a_this_bytes a_this_keys a_this_reg a_this_card a_this_filled a_this_taken a_this_line a_this_one a_this_two k_this_bytes k_this_keys k_this_reg o_this r_this_bytes r_this_keys r_this_reg false (p2 / (16 : Int32)) (((((p2 - p2 / (16 : Int32) * (16 : Int32)) - (p2 / (16 : Int32))) + (16 : Int32)) - (((p2 - p2 / (16 : Int32) * (16 : Int32)) - (p2 / (16 : Int32))) + (16 : Int32)) / (16 : Int32) * (16 : Int32)) + (1 : Int32)) p3 hi_58) cv_X8_several hx hb hml hown ht hN hK hA hP hD hS hl.1 (km_X8_186) ⟨Nat.le_of_ble_eq_true rfl, Nat.le_of_ble_eq_true rfl⟩ rfl rfl [0, 1, 2, 3] (by decide) rfl [0, 1, 2] rfl (fun _ => rfl) (ci := 8) rfl rfl rfl rfl rfl (Nat.le_of_ble_eq_true rfl) dX8_doStored_171 ⟨Nat.zero_le _, Nat.zero_le _⟩ (fun w_59 H locs hw hP hD hS => ?_)
          have hP : va_P D vwCl [(a_this, oX8 a_this_bytes a_this_keys a_this_reg a_this_card a_this_filled a_this_taken a_this_line a_this_one a_this_two w_59.1), (a_this_bytes, .inl (k_this_bytes, 2048, .inl w_59.2.1)), (a_this_keys, .inl (k_this_keys, 8, .inl r_this_keys)), (a_this_reg, .inl (k_this_reg, 16, .inl w_59.2.2))] H := hP
          have hD : va_D A [(a_this, oX8 a_this_bytes a_this_keys a_this_reg a_this_card a_this_filled a_this_taken a_this_line a_this_one a_this_two w_59.1), (a_this_bytes, .inl (k_this_bytes, 2048, .inl w_59.2.1)), (a_this_keys, .inl (k_this_keys, 8, .inl r_this_keys)), (a_this_reg, .inl (k_this_reg, 16, .inl w_59.2.2))] := hD
          rw [q_let_of hw] at hF
          refine lv_goto (tgt := 323) hx hb dX8_doStored_174 (by decide) ?_
          exact hQ (w_59.1, w_59.2.1, w_59.2.2) _ _ _ _ dX8_doStored_323 hF.symm hP hD hS
        · skip
          rw [if_pos c_57] at hF
          rw [if_pos c_57] at hs
          refine lv_iconst (v := 1) hx hb dX8_doStored_148 (by decide) ?_
          refine lv_goto (tgt := 153) hx hb dX8_doStored_149 (by decide) ?_
          refine lv_iload hx hb dX8_doStored_153 (lv_at hl 1 rfl) ?_
          refine lv_iload_n hx hb dX8_doStored_155 rfl (lv_at hl 4 rfl) ?_
          refine lv_bipush (v := 16) hx hb dX8_doStored_156 (by decide) ?_
          refine lv_irem hx hb dX8_doStored_158 (by decide) ?_
          refine lv_iload hx hb dX8_doStored_159 (lv_at hl 1 rfl) ?_
          refine lv_isub hx hb dX8_doStored_161 ?_
          refine lv_bipush (v := 16) hx hb dX8_doStored_162 (by decide) ?_
          refine lv_iadd hx hb dX8_doStored_164 ?_
          refine lv_bipush (v := 16) hx hb dX8_doStored_165 (by decide) ?_
          refine lv_irem hx hb dX8_doStored_167 (by decide) ?_
          refine lv_iconst (v := 1) hx hb dX8_doStored_168 (by decide) ?_
          refine lv_iadd hx hb dX8_doStored_169 ?_
          refine lv_iload_n hx hb dX8_doStored_170 rfl (lv_at hl 5 rfl) ?_
          have hi_60 := hs
          refine q_Vv (rest := []) (c_X8_several l D a_this a_this_bytes a_this_keys a_this_reg a_this_card a_this_filled a_this_taken a_this_line a_this_one a_this_two k_this_bytes k_this_keys k_this_reg o_this r_this_bytes r_this_keys r_this_reg true (p2 / (16 : Int32)) (((((p2 - p2 / (16 : Int32) * (16 : Int32)) - (p2 / (16 : Int32))) + (16 : Int32)) - (((p2 - p2 / (16 : Int32) * (16 : Int32)) - (p2 / (16 : Int32))) + (16 : Int32)) / (16 : Int32) * (16 : Int32)) + (1 : Int32)) p3 hi_60) cv_X8_several hx hb hml hown ht hN hK hA hP hD hS hl.1 (km_X8_186) ⟨Nat.le_of_ble_eq_true rfl, Nat.le_of_ble_eq_true rfl⟩ rfl rfl [0, 1, 2, 3] (by decide) rfl [0, 1, 2] rfl (fun _ => rfl) (ci := 8) rfl rfl rfl rfl rfl (Nat.le_of_ble_eq_true rfl) dX8_doStored_171 ⟨Nat.zero_le _, Nat.zero_le _⟩ (fun w_61 H locs hw hP hD hS => ?_)
          have hP : va_P D vwCl [(a_this, oX8 a_this_bytes a_this_keys a_this_reg a_this_card a_this_filled a_this_taken a_this_line a_this_one a_this_two w_61.1), (a_this_bytes, .inl (k_this_bytes, 2048, .inl w_61.2.1)), (a_this_keys, .inl (k_this_keys, 8, .inl r_this_keys)), (a_this_reg, .inl (k_this_reg, 16, .inl w_61.2.2))] H := hP
          have hD : va_D A [(a_this, oX8 a_this_bytes a_this_keys a_this_reg a_this_card a_this_filled a_this_taken a_this_line a_this_one a_this_two w_61.1), (a_this_bytes, .inl (k_this_bytes, 2048, .inl w_61.2.1)), (a_this_keys, .inl (k_this_keys, 8, .inl r_this_keys)), (a_this_reg, .inl (k_this_reg, 16, .inl w_61.2.2))] := hD
          rw [q_let_of hw] at hF
          refine lv_goto (tgt := 323) hx hb dX8_doStored_174 (by decide) ?_
          exact hQ (w_61.1, w_61.2.1, w_61.2.2) _ _ _ _ dX8_doStored_323 hF.symm hP hD hS
      · skip
        rw [if_neg c_56] at hF
        rw [if_neg c_56] at hs
        refine lv_iload_n hx hb dX8_doStored_133 rfl (lv_at hl 3 rfl) ?_
        refine lv_sipush (v := 152) hx hb dX8_doStored_134 (by decide) ?_
        refine lv_icmp_ne (tgt := 177) hx hb dX8_doStored_137 (by decide) (fun c_62 => ?_) (fun c_62 => ?_)
        · skip
          rw [if_neg c_62] at hF
          rw [if_neg c_62] at hs
          refine lv_iload_n hx hb dX8_doStored_177 rfl (lv_at hl 3 rfl) ?_
          refine lv_sipush (v := 130) hx hb dX8_doStored_178 (by decide) ?_
          refine lv_icmp_ne (tgt := 205) hx hb dX8_doStored_181 (by decide) (fun c_63 => ?_) (fun c_63 => ?_)
          · skip
            rw [if_neg c_63] at hF
            rw [if_neg c_63] at hs
            refine lv_iload_n hx hb dX8_doStored_205 rfl (lv_at hl 3 rfl) ?_
            refine lv_sipush (v := 156) hx hb dX8_doStored_206 (by decide) ?_
            refine lv_icmp_ne (tgt := 220) hx hb dX8_doStored_209 (by decide) (fun c_64 => ?_) (fun c_64 => ?_)
            · skip
              rw [if_neg c_64] at hF
              rw [if_neg c_64] at hs
              refine lv_iload_n hx hb dX8_doStored_220 rfl (lv_at hl 3 rfl) ?_
              refine lv_sipush (v := 157) hx hb dX8_doStored_221 (by decide) ?_
              refine lv_icmp_ne (tgt := 280) hx hb dX8_doStored_224 (by decide) (fun c_65 => ?_) (fun c_65 => ?_)
              · skip
                rw [if_neg c_65] at hF
                rw [if_neg c_65] at hs
                refine lv_aload_n hx hb dX8_doStored_280 rfl (lv_at hl 2 rfl) ?_
                refine lv_iload_n hx hb dX8_doStored_281 rfl (lv_at hl 5 rfl) ?_
                refine lv_iconst (v := 1) hx hb dX8_doStored_282 (by decide) ?_
                refine lv_iconst (v := 1) hx hb dX8_doStored_283 (by decide) ?_
                refine lv_iload_n hx hb dX8_doStored_284 rfl (lv_at hl 3 rfl) ?_
                refine lv_sipush (v := 146) hx hb dX8_doStored_285 (by decide) ?_
                refine lv_icmp_eq (tgt := 305) hx hb dX8_doStored_288 (by decide) (fun c_66 => ?_) (fun c_66 => ?_)
                · skip
                  rw [if_pos c_66] at hF
                  rw [if_pos c_66] at hs
                  refine lv_iconst (v := 1) hx hb dX8_doStored_305 (by decide) ?_
                  refine lv_goto (tgt := 310) hx hb dX8_doStored_306 (by decide) ?_
                  obtain ⟨hi_67, hs⟩ := hs
                  refine q_Vi (rest := []) (c_X8_good l D a_this a_this_keys a_this_bytes a_this_reg a_this_card a_this_filled a_this_taken a_this_line a_this_one a_this_two k_this_keys o_this r_this_keys p3 1 1 true hi_67) cv_X8_good hx hb hml hown ht hN hK hA hP hD hS hl.1 (km_X8_158) ⟨Nat.le_of_ble_eq_true rfl, Nat.le_of_ble_eq_true rfl⟩ rfl rfl [0, 2] (by decide) rfl [1] rfl (fun _ => rfl) (ci := 8) rfl rfl rfl rfl rfl (Nat.le_of_ble_eq_true rfl) dX8_doStored_310 ⟨Nat.zero_le _, Nat.zero_le _⟩ (fun r w_68 H locs hw hP hD hS => ?_)
                  obtain ⟨hw, hr⟩ := hw
                  subst hr
                  have hP : va_P D vwCl [(a_this, oX8 a_this_bytes a_this_keys a_this_reg a_this_card a_this_filled a_this_taken a_this_line a_this_one a_this_two w_68.2), (a_this_bytes, .inl (k_this_bytes, 2048, .inl r_this_bytes)), (a_this_keys, .inl (k_this_keys, 8, .inl r_this_keys)), (a_this_reg, .inl (k_this_reg, 16, .inl r_this_reg))] H := hP
                  have hD : va_D A [(a_this, oX8 a_this_bytes a_this_keys a_this_reg a_this_card a_this_filled a_this_taken a_this_line a_this_one a_this_two w_68.2), (a_this_bytes, .inl (k_this_bytes, 2048, .inl r_this_bytes)), (a_this_keys, .inl (k_this_keys, 8, .inl r_this_keys)), (a_this_reg, .inl (k_this_reg, 16, .inl r_this_reg))] := hD
                  rw [q_let_of hw] at hF
                  rw [q_let_of hw] at hs
                  refine lv_if_eq (tgt := 323) hx hb dX8_doStored_313 (by decide) (fun c_69 => ?_) (fun c_69 => ?_)
                  · have c_69 : ¬ w_68.1 = true := by rw [(bI_eq0 _).mp c_69]; decide
                    rw [if_neg c_69] at hF
                    rw [if_neg c_69] at hs
                    exact hQ (w_68.2, r_this_bytes, r_this_reg) _ _ _ _ dX8_doStored_323 hF.symm hP hD hS
                  · have c_69 := (bI_ne0 _).mp c_69
                    rw [if_pos c_69] at hF
                    rw [if_pos c_69] at hs
                    refine lv_aload_n hx hb dX8_doStored_316 rfl (lv_at hl 2 rfl) ?_
                    refine lv_iload_n hx hb dX8_doStored_317 rfl (lv_at hl 3 rfl) ?_
                    refine lv_iload_n hx hb dX8_doStored_318 rfl (lv_at hl 4 rfl) ?_
                    refine lv_iload_n hx hb dX8_doStored_319 rfl (lv_at hl 5 rfl) ?_
                    have hi_70 := hs
                    refine q_Vv (rest := []) (c_X8_single l D a_this a_this_bytes a_this_keys a_this_reg a_this_card a_this_filled a_this_taken a_this_line a_this_one a_this_two k_this_bytes w_68.2 r_this_bytes p1 p2 p3 hi_70) cv_X8_single hx hb hml hown ht hN hK hA hP hD hS hl.1 (km_X8_196) ⟨Nat.le_of_ble_eq_true rfl, Nat.le_of_ble_eq_true rfl⟩ rfl rfl [0, 1] (by decide) rfl [0] rfl (fun _ => rfl) (ci := 8) rfl rfl rfl rfl rfl (Nat.le_of_ble_eq_true rfl) dX8_doStored_320 ⟨Nat.zero_le _, Nat.zero_le _⟩ (fun w_71 H locs hw hP hD hS => ?_)
                    have hP : va_P D vwCl [(a_this, oX8 a_this_bytes a_this_keys a_this_reg a_this_card a_this_filled a_this_taken a_this_line a_this_one a_this_two w_71.1), (a_this_bytes, .inl (k_this_bytes, 2048, .inl w_71.2)), (a_this_keys, .inl (k_this_keys, 8, .inl r_this_keys)), (a_this_reg, .inl (k_this_reg, 16, .inl r_this_reg))] H := hP
                    have hD : va_D A [(a_this, oX8 a_this_bytes a_this_keys a_this_reg a_this_card a_this_filled a_this_taken a_this_line a_this_one a_this_two w_71.1), (a_this_bytes, .inl (k_this_bytes, 2048, .inl w_71.2)), (a_this_keys, .inl (k_this_keys, 8, .inl r_this_keys)), (a_this_reg, .inl (k_this_reg, 16, .inl r_this_reg))] := hD
                    rw [q_let_of hw] at hF
                    exact hQ (w_71.1, w_71.2, r_this_reg) _ _ _ _ dX8_doStored_323 hF.symm hP hD hS
                · skip
                  rw [if_neg c_66] at hF
                  rw [if_neg c_66] at hs
                  refine lv_iload_n hx hb dX8_doStored_291 rfl (lv_at hl 3 rfl) ?_
                  refine lv_sipush (v := 148) hx hb dX8_doStored_292 (by decide) ?_
                  refine lv_icmp_eq (tgt := 305) hx hb dX8_doStored_295 (by decide) (fun c_72 => ?_) (fun c_72 => ?_)
                  · skip
                    rw [if_pos c_72] at hF
                    rw [if_pos c_72] at hs
                    refine lv_iconst (v := 1) hx hb dX8_doStored_305 (by decide) ?_
                    refine lv_goto (tgt := 310) hx hb dX8_doStored_306 (by decide) ?_
                    obtain ⟨hi_73, hs⟩ := hs
                    refine q_Vi (rest := []) (c_X8_good l D a_this a_this_keys a_this_bytes a_this_reg a_this_card a_this_filled a_this_taken a_this_line a_this_one a_this_two k_this_keys o_this r_this_keys p3 1 1 true hi_73) cv_X8_good hx hb hml hown ht hN hK hA hP hD hS hl.1 (km_X8_158) ⟨Nat.le_of_ble_eq_true rfl, Nat.le_of_ble_eq_true rfl⟩ rfl rfl [0, 2] (by decide) rfl [1] rfl (fun _ => rfl) (ci := 8) rfl rfl rfl rfl rfl (Nat.le_of_ble_eq_true rfl) dX8_doStored_310 ⟨Nat.zero_le _, Nat.zero_le _⟩ (fun r w_74 H locs hw hP hD hS => ?_)
                    obtain ⟨hw, hr⟩ := hw
                    subst hr
                    have hP : va_P D vwCl [(a_this, oX8 a_this_bytes a_this_keys a_this_reg a_this_card a_this_filled a_this_taken a_this_line a_this_one a_this_two w_74.2), (a_this_bytes, .inl (k_this_bytes, 2048, .inl r_this_bytes)), (a_this_keys, .inl (k_this_keys, 8, .inl r_this_keys)), (a_this_reg, .inl (k_this_reg, 16, .inl r_this_reg))] H := hP
                    have hD : va_D A [(a_this, oX8 a_this_bytes a_this_keys a_this_reg a_this_card a_this_filled a_this_taken a_this_line a_this_one a_this_two w_74.2), (a_this_bytes, .inl (k_this_bytes, 2048, .inl r_this_bytes)), (a_this_keys, .inl (k_this_keys, 8, .inl r_this_keys)), (a_this_reg, .inl (k_this_reg, 16, .inl r_this_reg))] := hD
                    rw [q_let_of hw] at hF
                    rw [q_let_of hw] at hs
                    refine lv_if_eq (tgt := 323) hx hb dX8_doStored_313 (by decide) (fun c_75 => ?_) (fun c_75 => ?_)
                    · have c_75 : ¬ w_74.1 = true := by rw [(bI_eq0 _).mp c_75]; decide
                      rw [if_neg c_75] at hF
                      rw [if_neg c_75] at hs
                      exact hQ (w_74.2, r_this_bytes, r_this_reg) _ _ _ _ dX8_doStored_323 hF.symm hP hD hS
                    · have c_75 := (bI_ne0 _).mp c_75
                      rw [if_pos c_75] at hF
                      rw [if_pos c_75] at hs
                      refine lv_aload_n hx hb dX8_doStored_316 rfl (lv_at hl 2 rfl) ?_
                      refine lv_iload_n hx hb dX8_doStored_317 rfl (lv_at hl 3 rfl) ?_
                      refine lv_iload_n hx hb dX8_doStored_318 rfl (lv_at hl 4 rfl) ?_
                      refine lv_iload_n hx hb dX8_doStored_319 rfl (lv_at hl 5 rfl) ?_
                      have hi_76 := hs
                      refine q_Vv (rest := []) (c_X8_single l D a_this a_this_bytes a_this_keys a_this_reg a_this_card a_this_filled a_this_taken a_this_line a_this_one a_this_two k_this_bytes w_74.2 r_this_bytes p1 p2 p3 hi_76) cv_X8_single hx hb hml hown ht hN hK hA hP hD hS hl.1 (km_X8_196) ⟨Nat.le_of_ble_eq_true rfl, Nat.le_of_ble_eq_true rfl⟩ rfl rfl [0, 1] (by decide) rfl [0] rfl (fun _ => rfl) (ci := 8) rfl rfl rfl rfl rfl (Nat.le_of_ble_eq_true rfl) dX8_doStored_320 ⟨Nat.zero_le _, Nat.zero_le _⟩ (fun w_77 H locs hw hP hD hS => ?_)
                      have hP : va_P D vwCl [(a_this, oX8 a_this_bytes a_this_keys a_this_reg a_this_card a_this_filled a_this_taken a_this_line a_this_one a_this_two w_77.1), (a_this_bytes, .inl (k_this_bytes, 2048, .inl w_77.2)), (a_this_keys, .inl (k_this_keys, 8, .inl r_this_keys)), (a_this_reg, .inl (k_this_reg, 16, .inl r_this_reg))] H := hP
                      have hD : va_D A [(a_this, oX8 a_this_bytes a_this_keys a_this_reg a_this_card a_this_filled a_this_taken a_this_line a_this_one a_this_two w_77.1), (a_this_bytes, .inl (k_this_bytes, 2048, .inl w_77.2)), (a_this_keys, .inl (k_this_keys, 8, .inl r_this_keys)), (a_this_reg, .inl (k_this_reg, 16, .inl r_this_reg))] := hD
                      rw [q_let_of hw] at hF
                      exact hQ (w_77.1, w_77.2, r_this_reg) _ _ _ _ dX8_doStored_323 hF.symm hP hD hS
                  · skip
                    rw [if_neg c_72] at hF
                    rw [if_neg c_72] at hs
                    refine lv_iload_n hx hb dX8_doStored_298 rfl (lv_at hl 3 rfl) ?_
                    refine lv_sipush (v := 150) hx hb dX8_doStored_299 (by decide) ?_
                    refine lv_icmp_ne (tgt := 309) hx hb dX8_doStored_302 (by decide) (fun c_78 => ?_) (fun c_78 => ?_)
                    · skip
                      rw [if_neg c_78] at hF
                      rw [if_neg c_78] at hs
                      refine lv_iconst (v := 0) hx hb dX8_doStored_309 (by decide) ?_
                      obtain ⟨hi_79, hs⟩ := hs
                      refine q_Vi (rest := []) (c_X8_good l D a_this a_this_keys a_this_bytes a_this_reg a_this_card a_this_filled a_this_taken a_this_line a_this_one a_this_two k_this_keys o_this r_this_keys p3 1 1 false hi_79) cv_X8_good hx hb hml hown ht hN hK hA hP hD hS hl.1 (km_X8_158) ⟨Nat.le_of_ble_eq_true rfl, Nat.le_of_ble_eq_true rfl⟩ rfl rfl [0, 2] (by decide) rfl [1] rfl (fun _ => rfl) (ci := 8) rfl rfl rfl rfl rfl (Nat.le_of_ble_eq_true rfl) dX8_doStored_310 ⟨Nat.zero_le _, Nat.zero_le _⟩ (fun r w_80 H locs hw hP hD hS => ?_)
                      obtain ⟨hw, hr⟩ := hw
                      subst hr
                      have hP : va_P D vwCl [(a_this, oX8 a_this_bytes a_this_keys a_this_reg a_this_card a_this_filled a_this_taken a_this_line a_this_one a_this_two w_80.2), (a_this_bytes, .inl (k_this_bytes, 2048, .inl r_this_bytes)), (a_this_keys, .inl (k_this_keys, 8, .inl r_this_keys)), (a_this_reg, .inl (k_this_reg, 16, .inl r_this_reg))] H := hP
                      have hD : va_D A [(a_this, oX8 a_this_bytes a_this_keys a_this_reg a_this_card a_this_filled a_this_taken a_this_line a_this_one a_this_two w_80.2), (a_this_bytes, .inl (k_this_bytes, 2048, .inl r_this_bytes)), (a_this_keys, .inl (k_this_keys, 8, .inl r_this_keys)), (a_this_reg, .inl (k_this_reg, 16, .inl r_this_reg))] := hD
                      rw [q_let_of hw] at hF
                      rw [q_let_of hw] at hs
                      refine lv_if_eq (tgt := 323) hx hb dX8_doStored_313 (by decide) (fun c_81 => ?_) (fun c_81 => ?_)
                      · have c_81 : ¬ w_80.1 = true := by rw [(bI_eq0 _).mp c_81]; decide
                        rw [if_neg c_81] at hF
                        rw [if_neg c_81] at hs
                        exact hQ (w_80.2, r_this_bytes, r_this_reg) _ _ _ _ dX8_doStored_323 hF.symm hP hD hS
                      · have c_81 := (bI_ne0 _).mp c_81
                        rw [if_pos c_81] at hF
                        rw [if_pos c_81] at hs
                        refine lv_aload_n hx hb dX8_doStored_316 rfl (lv_at hl 2 rfl) ?_
                        refine lv_iload_n hx hb dX8_doStored_317 rfl (lv_at hl 3 rfl) ?_
                        refine lv_iload_n hx hb dX8_doStored_318 rfl (lv_at hl 4 rfl) ?_
                        refine lv_iload_n hx hb dX8_doStored_319 rfl (lv_at hl 5 rfl) ?_
                        have hi_82 := hs
                        refine q_Vv (rest := []) (c_X8_single l D a_this a_this_bytes a_this_keys a_this_reg a_this_card a_this_filled a_this_taken a_this_line a_this_one a_this_two k_this_bytes w_80.2 r_this_bytes p1 p2 p3 hi_82) cv_X8_single hx hb hml hown ht hN hK hA hP hD hS hl.1 (km_X8_196) ⟨Nat.le_of_ble_eq_true rfl, Nat.le_of_ble_eq_true rfl⟩ rfl rfl [0, 1] (by decide) rfl [0] rfl (fun _ => rfl) (ci := 8) rfl rfl rfl rfl rfl (Nat.le_of_ble_eq_true rfl) dX8_doStored_320 ⟨Nat.zero_le _, Nat.zero_le _⟩ (fun w_83 H locs hw hP hD hS => ?_)
                        have hP : va_P D vwCl [(a_this, oX8 a_this_bytes a_this_keys a_this_reg a_this_card a_this_filled a_this_taken a_this_line a_this_one a_this_two w_83.1), (a_this_bytes, .inl (k_this_bytes, 2048, .inl w_83.2)), (a_this_keys, .inl (k_this_keys, 8, .inl r_this_keys)), (a_this_reg, .inl (k_this_reg, 16, .inl r_this_reg))] H := hP
                        have hD : va_D A [(a_this, oX8 a_this_bytes a_this_keys a_this_reg a_this_card a_this_filled a_this_taken a_this_line a_this_one a_this_two w_83.1), (a_this_bytes, .inl (k_this_bytes, 2048, .inl w_83.2)), (a_this_keys, .inl (k_this_keys, 8, .inl r_this_keys)), (a_this_reg, .inl (k_this_reg, 16, .inl r_this_reg))] := hD
                        rw [q_let_of hw] at hF
                        exact hQ (w_83.1, w_83.2, r_this_reg) _ _ _ _ dX8_doStored_323 hF.symm hP hD hS
                    · skip
                      rw [if_pos c_78] at hF
                      rw [if_pos c_78] at hs
                      refine lv_iconst (v := 1) hx hb dX8_doStored_305 (by decide) ?_
                      refine lv_goto (tgt := 310) hx hb dX8_doStored_306 (by decide) ?_
                      obtain ⟨hi_84, hs⟩ := hs
                      refine q_Vi (rest := []) (c_X8_good l D a_this a_this_keys a_this_bytes a_this_reg a_this_card a_this_filled a_this_taken a_this_line a_this_one a_this_two k_this_keys o_this r_this_keys p3 1 1 true hi_84) cv_X8_good hx hb hml hown ht hN hK hA hP hD hS hl.1 (km_X8_158) ⟨Nat.le_of_ble_eq_true rfl, Nat.le_of_ble_eq_true rfl⟩ rfl rfl [0, 2] (by decide) rfl [1] rfl (fun _ => rfl) (ci := 8) rfl rfl rfl rfl rfl (Nat.le_of_ble_eq_true rfl) dX8_doStored_310 ⟨Nat.zero_le _, Nat.zero_le _⟩ (fun r w_85 H locs hw hP hD hS => ?_)
                      obtain ⟨hw, hr⟩ := hw
                      subst hr
                      have hP : va_P D vwCl [(a_this, oX8 a_this_bytes a_this_keys a_this_reg a_this_card a_this_filled a_this_taken a_this_line a_this_one a_this_two w_85.2), (a_this_bytes, .inl (k_this_bytes, 2048, .inl r_this_bytes)), (a_this_keys, .inl (k_this_keys, 8, .inl r_this_keys)), (a_this_reg, .inl (k_this_reg, 16, .inl r_this_reg))] H := hP
                      have hD : va_D A [(a_this, oX8 a_this_bytes a_this_keys a_this_reg a_this_card a_this_filled a_this_taken a_this_line a_this_one a_this_two w_85.2), (a_this_bytes, .inl (k_this_bytes, 2048, .inl r_this_bytes)), (a_this_keys, .inl (k_this_keys, 8, .inl r_this_keys)), (a_this_reg, .inl (k_this_reg, 16, .inl r_this_reg))] := hD
                      rw [q_let_of hw] at hF
                      rw [q_let_of hw] at hs
                      refine lv_if_eq (tgt := 323) hx hb dX8_doStored_313 (by decide) (fun c_86 => ?_) (fun c_86 => ?_)
                      · have c_86 : ¬ w_85.1 = true := by rw [(bI_eq0 _).mp c_86]; decide
                        rw [if_neg c_86] at hF
                        rw [if_neg c_86] at hs
                        exact hQ (w_85.2, r_this_bytes, r_this_reg) _ _ _ _ dX8_doStored_323 hF.symm hP hD hS
                      · have c_86 := (bI_ne0 _).mp c_86
                        rw [if_pos c_86] at hF
                        rw [if_pos c_86] at hs
                        refine lv_aload_n hx hb dX8_doStored_316 rfl (lv_at hl 2 rfl) ?_
                        refine lv_iload_n hx hb dX8_doStored_317 rfl (lv_at hl 3 rfl) ?_
                        refine lv_iload_n hx hb dX8_doStored_318 rfl (lv_at hl 4 rfl) ?_
                        refine lv_iload_n hx hb dX8_doStored_319 rfl (lv_at hl 5 rfl) ?_
                        have hi_87 := hs
                        refine q_Vv (rest := []) (c_X8_single l D a_this a_this_bytes a_this_keys a_this_reg a_this_card a_this_filled a_this_taken a_this_line a_this_one a_this_two k_this_bytes w_85.2 r_this_bytes p1 p2 p3 hi_87) cv_X8_single hx hb hml hown ht hN hK hA hP hD hS hl.1 (km_X8_196) ⟨Nat.le_of_ble_eq_true rfl, Nat.le_of_ble_eq_true rfl⟩ rfl rfl [0, 1] (by decide) rfl [0] rfl (fun _ => rfl) (ci := 8) rfl rfl rfl rfl rfl (Nat.le_of_ble_eq_true rfl) dX8_doStored_320 ⟨Nat.zero_le _, Nat.zero_le _⟩ (fun w_88 H locs hw hP hD hS => ?_)
                        have hP : va_P D vwCl [(a_this, oX8 a_this_bytes a_this_keys a_this_reg a_this_card a_this_filled a_this_taken a_this_line a_this_one a_this_two w_88.1), (a_this_bytes, .inl (k_this_bytes, 2048, .inl w_88.2)), (a_this_keys, .inl (k_this_keys, 8, .inl r_this_keys)), (a_this_reg, .inl (k_this_reg, 16, .inl r_this_reg))] H := hP
                        have hD : va_D A [(a_this, oX8 a_this_bytes a_this_keys a_this_reg a_this_card a_this_filled a_this_taken a_this_line a_this_one a_this_two w_88.1), (a_this_bytes, .inl (k_this_bytes, 2048, .inl w_88.2)), (a_this_keys, .inl (k_this_keys, 8, .inl r_this_keys)), (a_this_reg, .inl (k_this_reg, 16, .inl r_this_reg))] := hD
                        rw [q_let_of hw] at hF
                        exact hQ (w_88.1, w_88.2, r_this_reg) _ _ _ _ dX8_doStored_323 hF.symm hP hD hS
              · skip
                rw [if_pos c_65] at hF
                rw [if_pos c_65] at hs
                refine lv_aload_n hx hb dX8_doStored_227 rfl (lv_at hl 2 rfl) ?_
                refine lv_aload_n hx hb dX8_doStored_228 rfl (lv_at hl 2 rfl) ?_
                refine gf_X8_193 (v := .int (bI o_this.2.2.2.2.2.2.2.2.2.2.1)) hx hb hown ht hK hP 0 rfl rfl dX8_doStored_229 ?_
                refine lv_if_eq (tgt := 239) hx hb dX8_doStored_232 (by decide) (fun c_89 => ?_) (fun c_89 => ?_)
                · have c_89 : ¬ o_this.2.2.2.2.2.2.2.2.2.2.1 = true := by rw [(bI_eq0 _).mp c_89]; decide
                  rw [if_neg c_89] at hF
                  refine lv_aload_n hx hb dX8_doStored_239 rfl (lv_at hl 2 rfl) ?_
                  refine gf_X8_80 (v := .int (bI o_this.2.2.2.2.2.1)) hx hb hown ht hK hP 0 rfl rfl dX8_doStored_240 ?_
                  refine lv_if_eq (tgt := 250) hx hb dX8_doStored_243 (by decide) (fun c_90 => ?_) (fun c_90 => ?_)
                  · have c_90 : ¬ o_this.2.2.2.2.2.1 = true := by rw [(bI_eq0 _).mp c_90]; decide
                    rw [if_neg c_90] at hF
                    refine lv_iconst (v := 0) hx hb dX8_doStored_250 (by decide) ?_
                    refine pf_X8_52 (x := 0) hx hb hown ht hK hP hD hS 0 rfl (Nat.le_of_ble_eq_true rfl) dX8_doStored_251 (fun H locs hP hD hS => ?_)
                    have hP : va_P D vwCl [(a_this, oX8 a_this_bytes a_this_keys a_this_reg a_this_card a_this_filled a_this_taken a_this_line a_this_one a_this_two (o_this.1, o_this.2.1, 0, o_this.2.2.2.1, o_this.2.2.2.2.1, o_this.2.2.2.2.2.1, o_this.2.2.2.2.2.2.1, o_this.2.2.2.2.2.2.2.1, o_this.2.2.2.2.2.2.2.2.1, o_this.2.2.2.2.2.2.2.2.2.1, o_this.2.2.2.2.2.2.2.2.2.2.1, o_this.2.2.2.2.2.2.2.2.2.2.2.1, o_this.2.2.2.2.2.2.2.2.2.2.2.2.1, o_this.2.2.2.2.2.2.2.2.2.2.2.2.2.1, o_this.2.2.2.2.2.2.2.2.2.2.2.2.2.2.1, o_this.2.2.2.2.2.2.2.2.2.2.2.2.2.2.2.1, o_this.2.2.2.2.2.2.2.2.2.2.2.2.2.2.2.2.1, o_this.2.2.2.2.2.2.2.2.2.2.2.2.2.2.2.2.2.1, o_this.2.2.2.2.2.2.2.2.2.2.2.2.2.2.2.2.2.2.1, o_this.2.2.2.2.2.2.2.2.2.2.2.2.2.2.2.2.2.2.2.1, o_this.2.2.2.2.2.2.2.2.2.2.2.2.2.2.2.2.2.2.2.2.1, o_this.2.2.2.2.2.2.2.2.2.2.2.2.2.2.2.2.2.2.2.2.2.1, o_this.2.2.2.2.2.2.2.2.2.2.2.2.2.2.2.2.2.2.2.2.2.2.1, o_this.2.2.2.2.2.2.2.2.2.2.2.2.2.2.2.2.2.2.2.2.2.2.2.1, o_this.2.2.2.2.2.2.2.2.2.2.2.2.2.2.2.2.2.2.2.2.2.2.2.2)), (a_this_bytes, .inl (k_this_bytes, 2048, .inl r_this_bytes)), (a_this_keys, .inl (k_this_keys, 8, .inl r_this_keys)), (a_this_reg, .inl (k_this_reg, 16, .inl r_this_reg))] H := hP
                    have hD : va_D A [(a_this, oX8 a_this_bytes a_this_keys a_this_reg a_this_card a_this_filled a_this_taken a_this_line a_this_one a_this_two (o_this.1, o_this.2.1, 0, o_this.2.2.2.1, o_this.2.2.2.2.1, o_this.2.2.2.2.2.1, o_this.2.2.2.2.2.2.1, o_this.2.2.2.2.2.2.2.1, o_this.2.2.2.2.2.2.2.2.1, o_this.2.2.2.2.2.2.2.2.2.1, o_this.2.2.2.2.2.2.2.2.2.2.1, o_this.2.2.2.2.2.2.2.2.2.2.2.1, o_this.2.2.2.2.2.2.2.2.2.2.2.2.1, o_this.2.2.2.2.2.2.2.2.2.2.2.2.2.1, o_this.2.2.2.2.2.2.2.2.2.2.2.2.2.2.1, o_this.2.2.2.2.2.2.2.2.2.2.2.2.2.2.2.1, o_this.2.2.2.2.2.2.2.2.2.2.2.2.2.2.2.2.1, o_this.2.2.2.2.2.2.2.2.2.2.2.2.2.2.2.2.2.1, o_this.2.2.2.2.2.2.2.2.2.2.2.2.2.2.2.2.2.2.1, o_this.2.2.2.2.2.2.2.2.2.2.2.2.2.2.2.2.2.2.2.1, o_this.2.2.2.2.2.2.2.2.2.2.2.2.2.2.2.2.2.2.2.2.1, o_this.2.2.2.2.2.2.2.2.2.2.2.2.2.2.2.2.2.2.2.2.2.1, o_this.2.2.2.2.2.2.2.2.2.2.2.2.2.2.2.2.2.2.2.2.2.2.1, o_this.2.2.2.2.2.2.2.2.2.2.2.2.2.2.2.2.2.2.2.2.2.2.2.1, o_this.2.2.2.2.2.2.2.2.2.2.2.2.2.2.2.2.2.2.2.2.2.2.2.2)), (a_this_bytes, .inl (k_this_bytes, 2048, .inl r_this_bytes)), (a_this_keys, .inl (k_this_keys, 8, .inl r_this_keys)), (a_this_reg, .inl (k_this_reg, 16, .inl r_this_reg))] := hD
                    refine lv_aload_n hx hb dX8_doStored_254 rfl (lv_at hl 2 rfl) ?_
                    refine lv_aload_n hx hb dX8_doStored_255 rfl (lv_at hl 2 rfl) ?_
                    refine gf_X8_193 (v := .int (bI o_this.2.2.2.2.2.2.2.2.2.2.1)) hx hb hown ht hK hP 0 rfl rfl dX8_doStored_256 ?_
                    refine lv_if_eq (tgt := 273) hx hb dX8_doStored_259 (by decide) (fun c_91 => ?_) (fun c_91 => ?_)
                    · have c_91 : ¬ o_this.2.2.2.2.2.2.2.2.2.2.1 = true := by rw [(bI_eq0 _).mp c_91]; decide
                      rw [if_neg c_91] at hF
                      refine lv_iconst (v := 0) hx hb dX8_doStored_273 (by decide) ?_
                      refine pf_X8_80 (x := false) hx hb hown ht hK hP hD hS 0 rfl (Nat.le_of_ble_eq_true rfl) dX8_doStored_274 (fun H locs hP hD hS => ?_)
                      have hP : va_P D vwCl [(a_this, oX8 a_this_bytes a_this_keys a_this_reg a_this_card a_this_filled a_this_taken a_this_line a_this_one a_this_two (o_this.1, o_this.2.1, 0, o_this.2.2.2.1, o_this.2.2.2.2.1, false, o_this.2.2.2.2.2.2.1, o_this.2.2.2.2.2.2.2.1, o_this.2.2.2.2.2.2.2.2.1, o_this.2.2.2.2.2.2.2.2.2.1, o_this.2.2.2.2.2.2.2.2.2.2.1, o_this.2.2.2.2.2.2.2.2.2.2.2.1, o_this.2.2.2.2.2.2.2.2.2.2.2.2.1, o_this.2.2.2.2.2.2.2.2.2.2.2.2.2.1, o_this.2.2.2.2.2.2.2.2.2.2.2.2.2.2.1, o_this.2.2.2.2.2.2.2.2.2.2.2.2.2.2.2.1, o_this.2.2.2.2.2.2.2.2.2.2.2.2.2.2.2.2.1, o_this.2.2.2.2.2.2.2.2.2.2.2.2.2.2.2.2.2.1, o_this.2.2.2.2.2.2.2.2.2.2.2.2.2.2.2.2.2.2.1, o_this.2.2.2.2.2.2.2.2.2.2.2.2.2.2.2.2.2.2.2.1, o_this.2.2.2.2.2.2.2.2.2.2.2.2.2.2.2.2.2.2.2.2.1, o_this.2.2.2.2.2.2.2.2.2.2.2.2.2.2.2.2.2.2.2.2.2.1, o_this.2.2.2.2.2.2.2.2.2.2.2.2.2.2.2.2.2.2.2.2.2.2.1, o_this.2.2.2.2.2.2.2.2.2.2.2.2.2.2.2.2.2.2.2.2.2.2.2.1, o_this.2.2.2.2.2.2.2.2.2.2.2.2.2.2.2.2.2.2.2.2.2.2.2.2)), (a_this_bytes, .inl (k_this_bytes, 2048, .inl r_this_bytes)), (a_this_keys, .inl (k_this_keys, 8, .inl r_this_keys)), (a_this_reg, .inl (k_this_reg, 16, .inl r_this_reg))] H := hP
                      have hD : va_D A [(a_this, oX8 a_this_bytes a_this_keys a_this_reg a_this_card a_this_filled a_this_taken a_this_line a_this_one a_this_two (o_this.1, o_this.2.1, 0, o_this.2.2.2.1, o_this.2.2.2.2.1, false, o_this.2.2.2.2.2.2.1, o_this.2.2.2.2.2.2.2.1, o_this.2.2.2.2.2.2.2.2.1, o_this.2.2.2.2.2.2.2.2.2.1, o_this.2.2.2.2.2.2.2.2.2.2.1, o_this.2.2.2.2.2.2.2.2.2.2.2.1, o_this.2.2.2.2.2.2.2.2.2.2.2.2.1, o_this.2.2.2.2.2.2.2.2.2.2.2.2.2.1, o_this.2.2.2.2.2.2.2.2.2.2.2.2.2.2.1, o_this.2.2.2.2.2.2.2.2.2.2.2.2.2.2.2.1, o_this.2.2.2.2.2.2.2.2.2.2.2.2.2.2.2.2.1, o_this.2.2.2.2.2.2.2.2.2.2.2.2.2.2.2.2.2.1, o_this.2.2.2.2.2.2.2.2.2.2.2.2.2.2.2.2.2.2.1, o_this.2.2.2.2.2.2.2.2.2.2.2.2.2.2.2.2.2.2.2.1, o_this.2.2.2.2.2.2.2.2.2.2.2.2.2.2.2.2.2.2.2.2.1, o_this.2.2.2.2.2.2.2.2.2.2.2.2.2.2.2.2.2.2.2.2.2.1, o_this.2.2.2.2.2.2.2.2.2.2.2.2.2.2.2.2.2.2.2.2.2.2.1, o_this.2.2.2.2.2.2.2.2.2.2.2.2.2.2.2.2.2.2.2.2.2.2.2.1, o_this.2.2.2.2.2.2.2.2.2.2.2.2.2.2.2.2.2.2.2.2.2.2.2.2)), (a_this_bytes, .inl (k_this_bytes, 2048, .inl r_this_bytes)), (a_this_keys, .inl (k_this_keys, 8, .inl r_this_keys)), (a_this_reg, .inl (k_this_reg, 16, .inl r_this_reg))] := hD
                      refine lv_goto (tgt := 323) hx hb dX8_doStored_277 (by decide) ?_
                      exact hQ ((o_this.1, o_this.2.1, 0, o_this.2.2.2.1, o_this.2.2.2.2.1, false, o_this.2.2.2.2.2.2.1, o_this.2.2.2.2.2.2.2.1, o_this.2.2.2.2.2.2.2.2.1, o_this.2.2.2.2.2.2.2.2.2.1, o_this.2.2.2.2.2.2.2.2.2.2.1, o_this.2.2.2.2.2.2.2.2.2.2.2.1, o_this.2.2.2.2.2.2.2.2.2.2.2.2.1, o_this.2.2.2.2.2.2.2.2.2.2.2.2.2.1, o_this.2.2.2.2.2.2.2.2.2.2.2.2.2.2.1, o_this.2.2.2.2.2.2.2.2.2.2.2.2.2.2.2.1, o_this.2.2.2.2.2.2.2.2.2.2.2.2.2.2.2.2.1, o_this.2.2.2.2.2.2.2.2.2.2.2.2.2.2.2.2.2.1, o_this.2.2.2.2.2.2.2.2.2.2.2.2.2.2.2.2.2.2.1, o_this.2.2.2.2.2.2.2.2.2.2.2.2.2.2.2.2.2.2.2.1, o_this.2.2.2.2.2.2.2.2.2.2.2.2.2.2.2.2.2.2.2.2.1, o_this.2.2.2.2.2.2.2.2.2.2.2.2.2.2.2.2.2.2.2.2.2.1, o_this.2.2.2.2.2.2.2.2.2.2.2.2.2.2.2.2.2.2.2.2.2.2.1, o_this.2.2.2.2.2.2.2.2.2.2.2.2.2.2.2.2.2.2.2.2.2.2.2.1, o_this.2.2.2.2.2.2.2.2.2.2.2.2.2.2.2.2.2.2.2.2.2.2.2.2), r_this_bytes, r_this_reg) _ _ _ _ dX8_doStored_323 hF.symm hP hD hS
                    · have c_91 := (bI_ne0 _).mp c_91
                      rw [if_pos c_91] at hF
                      refine lv_aload_n hx hb dX8_doStored_262 rfl (lv_at hl 2 rfl) ?_
                      refine gf_X8_80 (v := .int (bI o_this.2.2.2.2.2.1)) hx hb hown ht hK hP 0 rfl rfl dX8_doStored_263 ?_
                      refine lv_if_eq (tgt := 273) hx hb dX8_doStored_266 (by decide) (fun c_92 => ?_) (fun c_92 => ?_)
                      · have c_92 : ¬ o_this.2.2.2.2.2.1 = true := by rw [(bI_eq0 _).mp c_92]; decide
                        rw [if_neg c_92] at hF
                        refine lv_iconst (v := 0) hx hb dX8_doStored_273 (by decide) ?_
                        refine pf_X8_80 (x := false) hx hb hown ht hK hP hD hS 0 rfl (Nat.le_of_ble_eq_true rfl) dX8_doStored_274 (fun H locs hP hD hS => ?_)
                        have hP : va_P D vwCl [(a_this, oX8 a_this_bytes a_this_keys a_this_reg a_this_card a_this_filled a_this_taken a_this_line a_this_one a_this_two (o_this.1, o_this.2.1, 0, o_this.2.2.2.1, o_this.2.2.2.2.1, false, o_this.2.2.2.2.2.2.1, o_this.2.2.2.2.2.2.2.1, o_this.2.2.2.2.2.2.2.2.1, o_this.2.2.2.2.2.2.2.2.2.1, o_this.2.2.2.2.2.2.2.2.2.2.1, o_this.2.2.2.2.2.2.2.2.2.2.2.1, o_this.2.2.2.2.2.2.2.2.2.2.2.2.1, o_this.2.2.2.2.2.2.2.2.2.2.2.2.2.1, o_this.2.2.2.2.2.2.2.2.2.2.2.2.2.2.1, o_this.2.2.2.2.2.2.2.2.2.2.2.2.2.2.2.1, o_this.2.2.2.2.2.2.2.2.2.2.2.2.2.2.2.2.1, o_this.2.2.2.2.2.2.2.2.2.2.2.2.2.2.2.2.2.1, o_this.2.2.2.2.2.2.2.2.2.2.2.2.2.2.2.2.2.2.1, o_this.2.2.2.2.2.2.2.2.2.2.2.2.2.2.2.2.2.2.2.1, o_this.2.2.2.2.2.2.2.2.2.2.2.2.2.2.2.2.2.2.2.2.1, o_this.2.2.2.2.2.2.2.2.2.2.2.2.2.2.2.2.2.2.2.2.2.1, o_this.2.2.2.2.2.2.2.2.2.2.2.2.2.2.2.2.2.2.2.2.2.2.1, o_this.2.2.2.2.2.2.2.2.2.2.2.2.2.2.2.2.2.2.2.2.2.2.2.1, o_this.2.2.2.2.2.2.2.2.2.2.2.2.2.2.2.2.2.2.2.2.2.2.2.2)), (a_this_bytes, .inl (k_this_bytes, 2048, .inl r_this_bytes)), (a_this_keys, .inl (k_this_keys, 8, .inl r_this_keys)), (a_this_reg, .inl (k_this_reg, 16, .inl r_this_reg))] H := hP
                        have hD : va_D A [(a_this, oX8 a_this_bytes a_this_keys a_this_reg a_this_card a_this_filled a_this_taken a_this_line a_this_one a_this_two (o_this.1, o_this.2.1, 0, o_this.2.2.2.1, o_this.2.2.2.2.1, false, o_this.2.2.2.2.2.2.1, o_this.2.2.2.2.2.2.2.1, o_this.2.2.2.2.2.2.2.2.1, o_this.2.2.2.2.2.2.2.2.2.1, o_this.2.2.2.2.2.2.2.2.2.2.1, o_this.2.2.2.2.2.2.2.2.2.2.2.1, o_this.2.2.2.2.2.2.2.2.2.2.2.2.1, o_this.2.2.2.2.2.2.2.2.2.2.2.2.2.1, o_this.2.2.2.2.2.2.2.2.2.2.2.2.2.2.1, o_this.2.2.2.2.2.2.2.2.2.2.2.2.2.2.2.1, o_this.2.2.2.2.2.2.2.2.2.2.2.2.2.2.2.2.1, o_this.2.2.2.2.2.2.2.2.2.2.2.2.2.2.2.2.2.1, o_this.2.2.2.2.2.2.2.2.2.2.2.2.2.2.2.2.2.2.1, o_this.2.2.2.2.2.2.2.2.2.2.2.2.2.2.2.2.2.2.2.1, o_this.2.2.2.2.2.2.2.2.2.2.2.2.2.2.2.2.2.2.2.2.1, o_this.2.2.2.2.2.2.2.2.2.2.2.2.2.2.2.2.2.2.2.2.2.1, o_this.2.2.2.2.2.2.2.2.2.2.2.2.2.2.2.2.2.2.2.2.2.2.1, o_this.2.2.2.2.2.2.2.2.2.2.2.2.2.2.2.2.2.2.2.2.2.2.2.1, o_this.2.2.2.2.2.2.2.2.2.2.2.2.2.2.2.2.2.2.2.2.2.2.2.2)), (a_this_bytes, .inl (k_this_bytes, 2048, .inl r_this_bytes)), (a_this_keys, .inl (k_this_keys, 8, .inl r_this_keys)), (a_this_reg, .inl (k_this_reg, 16, .inl r_this_reg))] := hD
                        refine lv_goto (tgt := 323) hx hb dX8_doStored_277 (by decide) ?_
                        exact hQ ((o_this.1, o_this.2.1, 0, o_this.2.2.2.1, o_this.2.2.2.2.1, false, o_this.2.2.2.2.2.2.1, o_this.2.2.2.2.2.2.2.1, o_this.2.2.2.2.2.2.2.2.1, o_this.2.2.2.2.2.2.2.2.2.1, o_this.2.2.2.2.2.2.2.2.2.2.1, o_this.2.2.2.2.2.2.2.2.2.2.2.1, o_this.2.2.2.2.2.2.2.2.2.2.2.2.1, o_this.2.2.2.2.2.2.2.2.2.2.2.2.2.1, o_this.2.2.2.2.2.2.2.2.2.2.2.2.2.2.1, o_this.2.2.2.2.2.2.2.2.2.2.2.2.2.2.2.1, o_this.2.2.2.2.2.2.2.2.2.2.2.2.2.2.2.2.1, o_this.2.2.2.2.2.2.2.2.2.2.2.2.2.2.2.2.2.1, o_this.2.2.2.2.2.2.2.2.2.2.2.2.2.2.2.2.2.2.1, o_this.2.2.2.2.2.2.2.2.2.2.2.2.2.2.2.2.2.2.2.1, o_this.2.2.2.2.2.2.2.2.2.2.2.2.2.2.2.2.2.2.2.2.1, o_this.2.2.2.2.2.2.2.2.2.2.2.2.2.2.2.2.2.2.2.2.2.1, o_this.2.2.2.2.2.2.2.2.2.2.2.2.2.2.2.2.2.2.2.2.2.2.1, o_this.2.2.2.2.2.2.2.2.2.2.2.2.2.2.2.2.2.2.2.2.2.2.2.1, o_this.2.2.2.2.2.2.2.2.2.2.2.2.2.2.2.2.2.2.2.2.2.2.2.2), r_this_bytes, r_this_reg) _ _ _ _ dX8_doStored_323 hF.symm hP hD hS
                      · have c_92 := (bI_ne0 _).mp c_92
                        rw [if_pos c_92] at hF
                        refine lv_iconst (v := 1) hx hb dX8_doStored_269 (by decide) ?_
                        refine lv_goto (tgt := 274) hx hb dX8_doStored_270 (by decide) ?_
                        refine pf_X8_80 (x := true) hx hb hown ht hK hP hD hS 0 rfl (Nat.le_of_ble_eq_true rfl) dX8_doStored_274 (fun H locs hP hD hS => ?_)
                        have hP : va_P D vwCl [(a_this, oX8 a_this_bytes a_this_keys a_this_reg a_this_card a_this_filled a_this_taken a_this_line a_this_one a_this_two (o_this.1, o_this.2.1, 0, o_this.2.2.2.1, o_this.2.2.2.2.1, true, o_this.2.2.2.2.2.2.1, o_this.2.2.2.2.2.2.2.1, o_this.2.2.2.2.2.2.2.2.1, o_this.2.2.2.2.2.2.2.2.2.1, o_this.2.2.2.2.2.2.2.2.2.2.1, o_this.2.2.2.2.2.2.2.2.2.2.2.1, o_this.2.2.2.2.2.2.2.2.2.2.2.2.1, o_this.2.2.2.2.2.2.2.2.2.2.2.2.2.1, o_this.2.2.2.2.2.2.2.2.2.2.2.2.2.2.1, o_this.2.2.2.2.2.2.2.2.2.2.2.2.2.2.2.1, o_this.2.2.2.2.2.2.2.2.2.2.2.2.2.2.2.2.1, o_this.2.2.2.2.2.2.2.2.2.2.2.2.2.2.2.2.2.1, o_this.2.2.2.2.2.2.2.2.2.2.2.2.2.2.2.2.2.2.1, o_this.2.2.2.2.2.2.2.2.2.2.2.2.2.2.2.2.2.2.2.1, o_this.2.2.2.2.2.2.2.2.2.2.2.2.2.2.2.2.2.2.2.2.1, o_this.2.2.2.2.2.2.2.2.2.2.2.2.2.2.2.2.2.2.2.2.2.1, o_this.2.2.2.2.2.2.2.2.2.2.2.2.2.2.2.2.2.2.2.2.2.2.1, o_this.2.2.2.2.2.2.2.2.2.2.2.2.2.2.2.2.2.2.2.2.2.2.2.1, o_this.2.2.2.2.2.2.2.2.2.2.2.2.2.2.2.2.2.2.2.2.2.2.2.2)), (a_this_bytes, .inl (k_this_bytes, 2048, .inl r_this_bytes)), (a_this_keys, .inl (k_this_keys, 8, .inl r_this_keys)), (a_this_reg, .inl (k_this_reg, 16, .inl r_this_reg))] H := hP
                        have hD : va_D A [(a_this, oX8 a_this_bytes a_this_keys a_this_reg a_this_card a_this_filled a_this_taken a_this_line a_this_one a_this_two (o_this.1, o_this.2.1, 0, o_this.2.2.2.1, o_this.2.2.2.2.1, true, o_this.2.2.2.2.2.2.1, o_this.2.2.2.2.2.2.2.1, o_this.2.2.2.2.2.2.2.2.1, o_this.2.2.2.2.2.2.2.2.2.1, o_this.2.2.2.2.2.2.2.2.2.2.1, o_this.2.2.2.2.2.2.2.2.2.2.2.1, o_this.2.2.2.2.2.2.2.2.2.2.2.2.1, o_this.2.2.2.2.2.2.2.2.2.2.2.2.2.1, o_this.2.2.2.2.2.2.2.2.2.2.2.2.2.2.1, o_this.2.2.2.2.2.2.2.2.2.2.2.2.2.2.2.1, o_this.2.2.2.2.2.2.2.2.2.2.2.2.2.2.2.2.1, o_this.2.2.2.2.2.2.2.2.2.2.2.2.2.2.2.2.2.1, o_this.2.2.2.2.2.2.2.2.2.2.2.2.2.2.2.2.2.2.1, o_this.2.2.2.2.2.2.2.2.2.2.2.2.2.2.2.2.2.2.2.1, o_this.2.2.2.2.2.2.2.2.2.2.2.2.2.2.2.2.2.2.2.2.1, o_this.2.2.2.2.2.2.2.2.2.2.2.2.2.2.2.2.2.2.2.2.2.1, o_this.2.2.2.2.2.2.2.2.2.2.2.2.2.2.2.2.2.2.2.2.2.2.1, o_this.2.2.2.2.2.2.2.2.2.2.2.2.2.2.2.2.2.2.2.2.2.2.2.1, o_this.2.2.2.2.2.2.2.2.2.2.2.2.2.2.2.2.2.2.2.2.2.2.2.2)), (a_this_bytes, .inl (k_this_bytes, 2048, .inl r_this_bytes)), (a_this_keys, .inl (k_this_keys, 8, .inl r_this_keys)), (a_this_reg, .inl (k_this_reg, 16, .inl r_this_reg))] := hD
                        refine lv_goto (tgt := 323) hx hb dX8_doStored_277 (by decide) ?_
                        exact hQ ((o_this.1, o_this.2.1, 0, o_this.2.2.2.1, o_this.2.2.2.2.1, true, o_this.2.2.2.2.2.2.1, o_this.2.2.2.2.2.2.2.1, o_this.2.2.2.2.2.2.2.2.1, o_this.2.2.2.2.2.2.2.2.2.1, o_this.2.2.2.2.2.2.2.2.2.2.1, o_this.2.2.2.2.2.2.2.2.2.2.2.1, o_this.2.2.2.2.2.2.2.2.2.2.2.2.1, o_this.2.2.2.2.2.2.2.2.2.2.2.2.2.1, o_this.2.2.2.2.2.2.2.2.2.2.2.2.2.2.1, o_this.2.2.2.2.2.2.2.2.2.2.2.2.2.2.2.1, o_this.2.2.2.2.2.2.2.2.2.2.2.2.2.2.2.2.1, o_this.2.2.2.2.2.2.2.2.2.2.2.2.2.2.2.2.2.1, o_this.2.2.2.2.2.2.2.2.2.2.2.2.2.2.2.2.2.2.1, o_this.2.2.2.2.2.2.2.2.2.2.2.2.2.2.2.2.2.2.2.1, o_this.2.2.2.2.2.2.2.2.2.2.2.2.2.2.2.2.2.2.2.2.1, o_this.2.2.2.2.2.2.2.2.2.2.2.2.2.2.2.2.2.2.2.2.2.1, o_this.2.2.2.2.2.2.2.2.2.2.2.2.2.2.2.2.2.2.2.2.2.2.1, o_this.2.2.2.2.2.2.2.2.2.2.2.2.2.2.2.2.2.2.2.2.2.2.2.1, o_this.2.2.2.2.2.2.2.2.2.2.2.2.2.2.2.2.2.2.2.2.2.2.2.2), r_this_bytes, r_this_reg) _ _ _ _ dX8_doStored_323 hF.symm hP hD hS
                  · have c_90 := (bI_ne0 _).mp c_90
                    rw [if_pos c_90] at hF
                    refine lv_iconst (v := 1) hx hb dX8_doStored_246 (by decide) ?_
                    refine lv_goto (tgt := 251) hx hb dX8_doStored_247 (by decide) ?_
                    refine pf_X8_52 (x := 1) hx hb hown ht hK hP hD hS 0 rfl (Nat.le_of_ble_eq_true rfl) dX8_doStored_251 (fun H locs hP hD hS => ?_)
                    have hP : va_P D vwCl [(a_this, oX8 a_this_bytes a_this_keys a_this_reg a_this_card a_this_filled a_this_taken a_this_line a_this_one a_this_two (o_this.1, o_this.2.1, 1, o_this.2.2.2.1, o_this.2.2.2.2.1, o_this.2.2.2.2.2.1, o_this.2.2.2.2.2.2.1, o_this.2.2.2.2.2.2.2.1, o_this.2.2.2.2.2.2.2.2.1, o_this.2.2.2.2.2.2.2.2.2.1, o_this.2.2.2.2.2.2.2.2.2.2.1, o_this.2.2.2.2.2.2.2.2.2.2.2.1, o_this.2.2.2.2.2.2.2.2.2.2.2.2.1, o_this.2.2.2.2.2.2.2.2.2.2.2.2.2.1, o_this.2.2.2.2.2.2.2.2.2.2.2.2.2.2.1, o_this.2.2.2.2.2.2.2.2.2.2.2.2.2.2.2.1, o_this.2.2.2.2.2.2.2.2.2.2.2.2.2.2.2.2.1, o_this.2.2.2.2.2.2.2.2.2.2.2.2.2.2.2.2.2.1, o_this.2.2.2.2.2.2.2.2.2.2.2.2.2.2.2.2.2.2.1, o_this.2.2.2.2.2.2.2.2.2.2.2.2.2.2.2.2.2.2.2.1, o_this.2.2.2.2.2.2.2.2.2.2.2.2.2.2.2.2.2.2.2.2.1, o_this.2.2.2.2.2.2.2.2.2.2.2.2.2.2.2.2.2.2.2.2.2.1, o_this.2.2.2.2.2.2.2.2.2.2.2.2.2.2.2.2.2.2.2.2.2.2.1, o_this.2.2.2.2.2.2.2.2.2.2.2.2.2.2.2.2.2.2.2.2.2.2.2.1, o_this.2.2.2.2.2.2.2.2.2.2.2.2.2.2.2.2.2.2.2.2.2.2.2.2)), (a_this_bytes, .inl (k_this_bytes, 2048, .inl r_this_bytes)), (a_this_keys, .inl (k_this_keys, 8, .inl r_this_keys)), (a_this_reg, .inl (k_this_reg, 16, .inl r_this_reg))] H := hP
                    have hD : va_D A [(a_this, oX8 a_this_bytes a_this_keys a_this_reg a_this_card a_this_filled a_this_taken a_this_line a_this_one a_this_two (o_this.1, o_this.2.1, 1, o_this.2.2.2.1, o_this.2.2.2.2.1, o_this.2.2.2.2.2.1, o_this.2.2.2.2.2.2.1, o_this.2.2.2.2.2.2.2.1, o_this.2.2.2.2.2.2.2.2.1, o_this.2.2.2.2.2.2.2.2.2.1, o_this.2.2.2.2.2.2.2.2.2.2.1, o_this.2.2.2.2.2.2.2.2.2.2.2.1, o_this.2.2.2.2.2.2.2.2.2.2.2.2.1, o_this.2.2.2.2.2.2.2.2.2.2.2.2.2.1, o_this.2.2.2.2.2.2.2.2.2.2.2.2.2.2.1, o_this.2.2.2.2.2.2.2.2.2.2.2.2.2.2.2.1, o_this.2.2.2.2.2.2.2.2.2.2.2.2.2.2.2.2.1, o_this.2.2.2.2.2.2.2.2.2.2.2.2.2.2.2.2.2.1, o_this.2.2.2.2.2.2.2.2.2.2.2.2.2.2.2.2.2.2.1, o_this.2.2.2.2.2.2.2.2.2.2.2.2.2.2.2.2.2.2.2.1, o_this.2.2.2.2.2.2.2.2.2.2.2.2.2.2.2.2.2.2.2.2.1, o_this.2.2.2.2.2.2.2.2.2.2.2.2.2.2.2.2.2.2.2.2.2.1, o_this.2.2.2.2.2.2.2.2.2.2.2.2.2.2.2.2.2.2.2.2.2.2.1, o_this.2.2.2.2.2.2.2.2.2.2.2.2.2.2.2.2.2.2.2.2.2.2.2.1, o_this.2.2.2.2.2.2.2.2.2.2.2.2.2.2.2.2.2.2.2.2.2.2.2.2)), (a_this_bytes, .inl (k_this_bytes, 2048, .inl r_this_bytes)), (a_this_keys, .inl (k_this_keys, 8, .inl r_this_keys)), (a_this_reg, .inl (k_this_reg, 16, .inl r_this_reg))] := hD
                    refine lv_aload_n hx hb dX8_doStored_254 rfl (lv_at hl 2 rfl) ?_
                    refine lv_aload_n hx hb dX8_doStored_255 rfl (lv_at hl 2 rfl) ?_
                    refine gf_X8_193 (v := .int (bI o_this.2.2.2.2.2.2.2.2.2.2.1)) hx hb hown ht hK hP 0 rfl rfl dX8_doStored_256 ?_
                    refine lv_if_eq (tgt := 273) hx hb dX8_doStored_259 (by decide) (fun c_93 => ?_) (fun c_93 => ?_)
                    · have c_93 : ¬ o_this.2.2.2.2.2.2.2.2.2.2.1 = true := by rw [(bI_eq0 _).mp c_93]; decide
                      rw [if_neg c_93] at hF
                      refine lv_iconst (v := 0) hx hb dX8_doStored_273 (by decide) ?_
                      refine pf_X8_80 (x := false) hx hb hown ht hK hP hD hS 0 rfl (Nat.le_of_ble_eq_true rfl) dX8_doStored_274 (fun H locs hP hD hS => ?_)
                      have hP : va_P D vwCl [(a_this, oX8 a_this_bytes a_this_keys a_this_reg a_this_card a_this_filled a_this_taken a_this_line a_this_one a_this_two (o_this.1, o_this.2.1, 1, o_this.2.2.2.1, o_this.2.2.2.2.1, false, o_this.2.2.2.2.2.2.1, o_this.2.2.2.2.2.2.2.1, o_this.2.2.2.2.2.2.2.2.1, o_this.2.2.2.2.2.2.2.2.2.1, o_this.2.2.2.2.2.2.2.2.2.2.1, o_this.2.2.2.2.2.2.2.2.2.2.2.1, o_this.2.2.2.2.2.2.2.2.2.2.2.2.1, o_this.2.2.2.2.2.2.2.2.2.2.2.2.2.1, o_this.2.2.2.2.2.2.2.2.2.2.2.2.2.2.1, o_this.2.2.2.2.2.2.2.2.2.2.2.2.2.2.2.1, o_this.2.2.2.2.2.2.2.2.2.2.2.2.2.2.2.2.1, o_this.2.2.2.2.2.2.2.2.2.2.2.2.2.2.2.2.2.1, o_this.2.2.2.2.2.2.2.2.2.2.2.2.2.2.2.2.2.2.1, o_this.2.2.2.2.2.2.2.2.2.2.2.2.2.2.2.2.2.2.2.1, o_this.2.2.2.2.2.2.2.2.2.2.2.2.2.2.2.2.2.2.2.2.1, o_this.2.2.2.2.2.2.2.2.2.2.2.2.2.2.2.2.2.2.2.2.2.1, o_this.2.2.2.2.2.2.2.2.2.2.2.2.2.2.2.2.2.2.2.2.2.2.1, o_this.2.2.2.2.2.2.2.2.2.2.2.2.2.2.2.2.2.2.2.2.2.2.2.1, o_this.2.2.2.2.2.2.2.2.2.2.2.2.2.2.2.2.2.2.2.2.2.2.2.2)), (a_this_bytes, .inl (k_this_bytes, 2048, .inl r_this_bytes)), (a_this_keys, .inl (k_this_keys, 8, .inl r_this_keys)), (a_this_reg, .inl (k_this_reg, 16, .inl r_this_reg))] H := hP
                      have hD : va_D A [(a_this, oX8 a_this_bytes a_this_keys a_this_reg a_this_card a_this_filled a_this_taken a_this_line a_this_one a_this_two (o_this.1, o_this.2.1, 1, o_this.2.2.2.1, o_this.2.2.2.2.1, false, o_this.2.2.2.2.2.2.1, o_this.2.2.2.2.2.2.2.1, o_this.2.2.2.2.2.2.2.2.1, o_this.2.2.2.2.2.2.2.2.2.1, o_this.2.2.2.2.2.2.2.2.2.2.1, o_this.2.2.2.2.2.2.2.2.2.2.2.1, o_this.2.2.2.2.2.2.2.2.2.2.2.2.1, o_this.2.2.2.2.2.2.2.2.2.2.2.2.2.1, o_this.2.2.2.2.2.2.2.2.2.2.2.2.2.2.1, o_this.2.2.2.2.2.2.2.2.2.2.2.2.2.2.2.1, o_this.2.2.2.2.2.2.2.2.2.2.2.2.2.2.2.2.1, o_this.2.2.2.2.2.2.2.2.2.2.2.2.2.2.2.2.2.1, o_this.2.2.2.2.2.2.2.2.2.2.2.2.2.2.2.2.2.2.1, o_this.2.2.2.2.2.2.2.2.2.2.2.2.2.2.2.2.2.2.2.1, o_this.2.2.2.2.2.2.2.2.2.2.2.2.2.2.2.2.2.2.2.2.1, o_this.2.2.2.2.2.2.2.2.2.2.2.2.2.2.2.2.2.2.2.2.2.1, o_this.2.2.2.2.2.2.2.2.2.2.2.2.2.2.2.2.2.2.2.2.2.2.1, o_this.2.2.2.2.2.2.2.2.2.2.2.2.2.2.2.2.2.2.2.2.2.2.2.1, o_this.2.2.2.2.2.2.2.2.2.2.2.2.2.2.2.2.2.2.2.2.2.2.2.2)), (a_this_bytes, .inl (k_this_bytes, 2048, .inl r_this_bytes)), (a_this_keys, .inl (k_this_keys, 8, .inl r_this_keys)), (a_this_reg, .inl (k_this_reg, 16, .inl r_this_reg))] := hD
                      refine lv_goto (tgt := 323) hx hb dX8_doStored_277 (by decide) ?_
                      exact hQ ((o_this.1, o_this.2.1, 1, o_this.2.2.2.1, o_this.2.2.2.2.1, false, o_this.2.2.2.2.2.2.1, o_this.2.2.2.2.2.2.2.1, o_this.2.2.2.2.2.2.2.2.1, o_this.2.2.2.2.2.2.2.2.2.1, o_this.2.2.2.2.2.2.2.2.2.2.1, o_this.2.2.2.2.2.2.2.2.2.2.2.1, o_this.2.2.2.2.2.2.2.2.2.2.2.2.1, o_this.2.2.2.2.2.2.2.2.2.2.2.2.2.1, o_this.2.2.2.2.2.2.2.2.2.2.2.2.2.2.1, o_this.2.2.2.2.2.2.2.2.2.2.2.2.2.2.2.1, o_this.2.2.2.2.2.2.2.2.2.2.2.2.2.2.2.2.1, o_this.2.2.2.2.2.2.2.2.2.2.2.2.2.2.2.2.2.1, o_this.2.2.2.2.2.2.2.2.2.2.2.2.2.2.2.2.2.2.1, o_this.2.2.2.2.2.2.2.2.2.2.2.2.2.2.2.2.2.2.2.1, o_this.2.2.2.2.2.2.2.2.2.2.2.2.2.2.2.2.2.2.2.2.1, o_this.2.2.2.2.2.2.2.2.2.2.2.2.2.2.2.2.2.2.2.2.2.1, o_this.2.2.2.2.2.2.2.2.2.2.2.2.2.2.2.2.2.2.2.2.2.2.1, o_this.2.2.2.2.2.2.2.2.2.2.2.2.2.2.2.2.2.2.2.2.2.2.2.1, o_this.2.2.2.2.2.2.2.2.2.2.2.2.2.2.2.2.2.2.2.2.2.2.2.2), r_this_bytes, r_this_reg) _ _ _ _ dX8_doStored_323 hF.symm hP hD hS
                    · have c_93 := (bI_ne0 _).mp c_93
                      rw [if_pos c_93] at hF
                      refine lv_aload_n hx hb dX8_doStored_262 rfl (lv_at hl 2 rfl) ?_
                      refine gf_X8_80 (v := .int (bI o_this.2.2.2.2.2.1)) hx hb hown ht hK hP 0 rfl rfl dX8_doStored_263 ?_
                      refine lv_if_eq (tgt := 273) hx hb dX8_doStored_266 (by decide) (fun c_94 => ?_) (fun c_94 => ?_)
                      · have c_94 : ¬ o_this.2.2.2.2.2.1 = true := by rw [(bI_eq0 _).mp c_94]; decide
                        rw [if_neg c_94] at hF
                        refine lv_iconst (v := 0) hx hb dX8_doStored_273 (by decide) ?_
                        refine pf_X8_80 (x := false) hx hb hown ht hK hP hD hS 0 rfl (Nat.le_of_ble_eq_true rfl) dX8_doStored_274 (fun H locs hP hD hS => ?_)
                        have hP : va_P D vwCl [(a_this, oX8 a_this_bytes a_this_keys a_this_reg a_this_card a_this_filled a_this_taken a_this_line a_this_one a_this_two (o_this.1, o_this.2.1, 1, o_this.2.2.2.1, o_this.2.2.2.2.1, false, o_this.2.2.2.2.2.2.1, o_this.2.2.2.2.2.2.2.1, o_this.2.2.2.2.2.2.2.2.1, o_this.2.2.2.2.2.2.2.2.2.1, o_this.2.2.2.2.2.2.2.2.2.2.1, o_this.2.2.2.2.2.2.2.2.2.2.2.1, o_this.2.2.2.2.2.2.2.2.2.2.2.2.1, o_this.2.2.2.2.2.2.2.2.2.2.2.2.2.1, o_this.2.2.2.2.2.2.2.2.2.2.2.2.2.2.1, o_this.2.2.2.2.2.2.2.2.2.2.2.2.2.2.2.1, o_this.2.2.2.2.2.2.2.2.2.2.2.2.2.2.2.2.1, o_this.2.2.2.2.2.2.2.2.2.2.2.2.2.2.2.2.2.1, o_this.2.2.2.2.2.2.2.2.2.2.2.2.2.2.2.2.2.2.1, o_this.2.2.2.2.2.2.2.2.2.2.2.2.2.2.2.2.2.2.2.1, o_this.2.2.2.2.2.2.2.2.2.2.2.2.2.2.2.2.2.2.2.2.1, o_this.2.2.2.2.2.2.2.2.2.2.2.2.2.2.2.2.2.2.2.2.2.1, o_this.2.2.2.2.2.2.2.2.2.2.2.2.2.2.2.2.2.2.2.2.2.2.1, o_this.2.2.2.2.2.2.2.2.2.2.2.2.2.2.2.2.2.2.2.2.2.2.2.1, o_this.2.2.2.2.2.2.2.2.2.2.2.2.2.2.2.2.2.2.2.2.2.2.2.2)), (a_this_bytes, .inl (k_this_bytes, 2048, .inl r_this_bytes)), (a_this_keys, .inl (k_this_keys, 8, .inl r_this_keys)), (a_this_reg, .inl (k_this_reg, 16, .inl r_this_reg))] H := hP
                        have hD : va_D A [(a_this, oX8 a_this_bytes a_this_keys a_this_reg a_this_card a_this_filled a_this_taken a_this_line a_this_one a_this_two (o_this.1, o_this.2.1, 1, o_this.2.2.2.1, o_this.2.2.2.2.1, false, o_this.2.2.2.2.2.2.1, o_this.2.2.2.2.2.2.2.1, o_this.2.2.2.2.2.2.2.2.1, o_this.2.2.2.2.2.2.2.2.2.1, o_this.2.2.2.2.2.2.2.2.2.2.1, o_this.2.2.2.2.2.2.2.2.2.2.2.1, o_this.2.2.2.2.2.2.2.2.2.2.2.2.1, o_this.2.2.2.2.2.2.2.2.2.2.2.2.2.1, o_this.2.2.2.2.2.2.2.2.2.2.2.2.2.2.1, o_this.2.2.2.2.2.2.2.2.2.2.2.2.2.2.2.1, o_this.2.2.2.2.2.2.2.2.2.2.2.2.2.2.2.2.1, o_this.2.2.2.2.2.2.2.2.2.2.2.2.2.2.2.2.2.1, o_this.2.2.2.2.2.2.2.2.2.2.2.2.2.2.2.2.2.2.1, o_this.2.2.2.2.2.2.2.2.2.2.2.2.2.2.2.2.2.2.2.1, o_this.2.2.2.2.2.2.2.2.2.2.2.2.2.2.2.2.2.2.2.2.1, o_this.2.2.2.2.2.2.2.2.2.2.2.2.2.2.2.2.2.2.2.2.2.1, o_this.2.2.2.2.2.2.2.2.2.2.2.2.2.2.2.2.2.2.2.2.2.2.1, o_this.2.2.2.2.2.2.2.2.2.2.2.2.2.2.2.2.2.2.2.2.2.2.2.1, o_this.2.2.2.2.2.2.2.2.2.2.2.2.2.2.2.2.2.2.2.2.2.2.2.2)), (a_this_bytes, .inl (k_this_bytes, 2048, .inl r_this_bytes)), (a_this_keys, .inl (k_this_keys, 8, .inl r_this_keys)), (a_this_reg, .inl (k_this_reg, 16, .inl r_this_reg))] := hD
                        refine lv_goto (tgt := 323) hx hb dX8_doStored_277 (by decide) ?_
                        exact hQ ((o_this.1, o_this.2.1, 1, o_this.2.2.2.1, o_this.2.2.2.2.1, false, o_this.2.2.2.2.2.2.1, o_this.2.2.2.2.2.2.2.1, o_this.2.2.2.2.2.2.2.2.1, o_this.2.2.2.2.2.2.2.2.2.1, o_this.2.2.2.2.2.2.2.2.2.2.1, o_this.2.2.2.2.2.2.2.2.2.2.2.1, o_this.2.2.2.2.2.2.2.2.2.2.2.2.1, o_this.2.2.2.2.2.2.2.2.2.2.2.2.2.1, o_this.2.2.2.2.2.2.2.2.2.2.2.2.2.2.1, o_this.2.2.2.2.2.2.2.2.2.2.2.2.2.2.2.1, o_this.2.2.2.2.2.2.2.2.2.2.2.2.2.2.2.2.1, o_this.2.2.2.2.2.2.2.2.2.2.2.2.2.2.2.2.2.1, o_this.2.2.2.2.2.2.2.2.2.2.2.2.2.2.2.2.2.2.1, o_this.2.2.2.2.2.2.2.2.2.2.2.2.2.2.2.2.2.2.2.1, o_this.2.2.2.2.2.2.2.2.2.2.2.2.2.2.2.2.2.2.2.2.1, o_this.2.2.2.2.2.2.2.2.2.2.2.2.2.2.2.2.2.2.2.2.2.1, o_this.2.2.2.2.2.2.2.2.2.2.2.2.2.2.2.2.2.2.2.2.2.2.1, o_this.2.2.2.2.2.2.2.2.2.2.2.2.2.2.2.2.2.2.2.2.2.2.2.1, o_this.2.2.2.2.2.2.2.2.2.2.2.2.2.2.2.2.2.2.2.2.2.2.2.2), r_this_bytes, r_this_reg) _ _ _ _ dX8_doStored_323 hF.symm hP hD hS
                      · have c_94 := (bI_ne0 _).mp c_94
                        rw [if_pos c_94] at hF
                        refine lv_iconst (v := 1) hx hb dX8_doStored_269 (by decide) ?_
                        refine lv_goto (tgt := 274) hx hb dX8_doStored_270 (by decide) ?_
                        refine pf_X8_80 (x := true) hx hb hown ht hK hP hD hS 0 rfl (Nat.le_of_ble_eq_true rfl) dX8_doStored_274 (fun H locs hP hD hS => ?_)
                        have hP : va_P D vwCl [(a_this, oX8 a_this_bytes a_this_keys a_this_reg a_this_card a_this_filled a_this_taken a_this_line a_this_one a_this_two (o_this.1, o_this.2.1, 1, o_this.2.2.2.1, o_this.2.2.2.2.1, true, o_this.2.2.2.2.2.2.1, o_this.2.2.2.2.2.2.2.1, o_this.2.2.2.2.2.2.2.2.1, o_this.2.2.2.2.2.2.2.2.2.1, o_this.2.2.2.2.2.2.2.2.2.2.1, o_this.2.2.2.2.2.2.2.2.2.2.2.1, o_this.2.2.2.2.2.2.2.2.2.2.2.2.1, o_this.2.2.2.2.2.2.2.2.2.2.2.2.2.1, o_this.2.2.2.2.2.2.2.2.2.2.2.2.2.2.1, o_this.2.2.2.2.2.2.2.2.2.2.2.2.2.2.2.1, o_this.2.2.2.2.2.2.2.2.2.2.2.2.2.2.2.2.1, o_this.2.2.2.2.2.2.2.2.2.2.2.2.2.2.2.2.2.1, o_this.2.2.2.2.2.2.2.2.2.2.2.2.2.2.2.2.2.2.1, o_this.2.2.2.2.2.2.2.2.2.2.2.2.2.2.2.2.2.2.2.1, o_this.2.2.2.2.2.2.2.2.2.2.2.2.2.2.2.2.2.2.2.2.1, o_this.2.2.2.2.2.2.2.2.2.2.2.2.2.2.2.2.2.2.2.2.2.1, o_this.2.2.2.2.2.2.2.2.2.2.2.2.2.2.2.2.2.2.2.2.2.2.1, o_this.2.2.2.2.2.2.2.2.2.2.2.2.2.2.2.2.2.2.2.2.2.2.2.1, o_this.2.2.2.2.2.2.2.2.2.2.2.2.2.2.2.2.2.2.2.2.2.2.2.2)), (a_this_bytes, .inl (k_this_bytes, 2048, .inl r_this_bytes)), (a_this_keys, .inl (k_this_keys, 8, .inl r_this_keys)), (a_this_reg, .inl (k_this_reg, 16, .inl r_this_reg))] H := hP
                        have hD : va_D A [(a_this, oX8 a_this_bytes a_this_keys a_this_reg a_this_card a_this_filled a_this_taken a_this_line a_this_one a_this_two (o_this.1, o_this.2.1, 1, o_this.2.2.2.1, o_this.2.2.2.2.1, true, o_this.2.2.2.2.2.2.1, o_this.2.2.2.2.2.2.2.1, o_this.2.2.2.2.2.2.2.2.1, o_this.2.2.2.2.2.2.2.2.2.1, o_this.2.2.2.2.2.2.2.2.2.2.1, o_this.2.2.2.2.2.2.2.2.2.2.2.1, o_this.2.2.2.2.2.2.2.2.2.2.2.2.1, o_this.2.2.2.2.2.2.2.2.2.2.2.2.2.1, o_this.2.2.2.2.2.2.2.2.2.2.2.2.2.2.1, o_this.2.2.2.2.2.2.2.2.2.2.2.2.2.2.2.1, o_this.2.2.2.2.2.2.2.2.2.2.2.2.2.2.2.2.1, o_this.2.2.2.2.2.2.2.2.2.2.2.2.2.2.2.2.2.1, o_this.2.2.2.2.2.2.2.2.2.2.2.2.2.2.2.2.2.2.1, o_this.2.2.2.2.2.2.2.2.2.2.2.2.2.2.2.2.2.2.2.1, o_this.2.2.2.2.2.2.2.2.2.2.2.2.2.2.2.2.2.2.2.2.1, o_this.2.2.2.2.2.2.2.2.2.2.2.2.2.2.2.2.2.2.2.2.2.1, o_this.2.2.2.2.2.2.2.2.2.2.2.2.2.2.2.2.2.2.2.2.2.2.1, o_this.2.2.2.2.2.2.2.2.2.2.2.2.2.2.2.2.2.2.2.2.2.2.2.1, o_this.2.2.2.2.2.2.2.2.2.2.2.2.2.2.2.2.2.2.2.2.2.2.2.2)), (a_this_bytes, .inl (k_this_bytes, 2048, .inl r_this_bytes)), (a_this_keys, .inl (k_this_keys, 8, .inl r_this_keys)), (a_this_reg, .inl (k_this_reg, 16, .inl r_this_reg))] := hD
                        refine lv_goto (tgt := 323) hx hb dX8_doStored_277 (by decide) ?_
                        exact hQ ((o_this.1, o_this.2.1, 1, o_this.2.2.2.1, o_this.2.2.2.2.1, true, o_this.2.2.2.2.2.2.1, o_this.2.2.2.2.2.2.2.1, o_this.2.2.2.2.2.2.2.2.1, o_this.2.2.2.2.2.2.2.2.2.1, o_this.2.2.2.2.2.2.2.2.2.2.1, o_this.2.2.2.2.2.2.2.2.2.2.2.1, o_this.2.2.2.2.2.2.2.2.2.2.2.2.1, o_this.2.2.2.2.2.2.2.2.2.2.2.2.2.1, o_this.2.2.2.2.2.2.2.2.2.2.2.2.2.2.1, o_this.2.2.2.2.2.2.2.2.2.2.2.2.2.2.2.1, o_this.2.2.2.2.2.2.2.2.2.2.2.2.2.2.2.2.1, o_this.2.2.2.2.2.2.2.2.2.2.2.2.2.2.2.2.2.1, o_this.2.2.2.2.2.2.2.2.2.2.2.2.2.2.2.2.2.2.1, o_this.2.2.2.2.2.2.2.2.2.2.2.2.2.2.2.2.2.2.2.1, o_this.2.2.2.2.2.2.2.2.2.2.2.2.2.2.2.2.2.2.2.2.1, o_this.2.2.2.2.2.2.2.2.2.2.2.2.2.2.2.2.2.2.2.2.2.1, o_this.2.2.2.2.2.2.2.2.2.2.2.2.2.2.2.2.2.2.2.2.2.2.1, o_this.2.2.2.2.2.2.2.2.2.2.2.2.2.2.2.2.2.2.2.2.2.2.2.1, o_this.2.2.2.2.2.2.2.2.2.2.2.2.2.2.2.2.2.2.2.2.2.2.2.2), r_this_bytes, r_this_reg) _ _ _ _ dX8_doStored_323 hF.symm hP hD hS
                · have c_89 := (bI_ne0 _).mp c_89
                  rw [if_pos c_89] at hF
                  refine lv_iconst (v := 2) hx hb dX8_doStored_235 (by decide) ?_
                  refine lv_goto (tgt := 251) hx hb dX8_doStored_236 (by decide) ?_
                  refine pf_X8_52 (x := 2) hx hb hown ht hK hP hD hS 0 rfl (Nat.le_of_ble_eq_true rfl) dX8_doStored_251 (fun H locs hP hD hS => ?_)
                  have hP : va_P D vwCl [(a_this, oX8 a_this_bytes a_this_keys a_this_reg a_this_card a_this_filled a_this_taken a_this_line a_this_one a_this_two (o_this.1, o_this.2.1, 2, o_this.2.2.2.1, o_this.2.2.2.2.1, o_this.2.2.2.2.2.1, o_this.2.2.2.2.2.2.1, o_this.2.2.2.2.2.2.2.1, o_this.2.2.2.2.2.2.2.2.1, o_this.2.2.2.2.2.2.2.2.2.1, o_this.2.2.2.2.2.2.2.2.2.2.1, o_this.2.2.2.2.2.2.2.2.2.2.2.1, o_this.2.2.2.2.2.2.2.2.2.2.2.2.1, o_this.2.2.2.2.2.2.2.2.2.2.2.2.2.1, o_this.2.2.2.2.2.2.2.2.2.2.2.2.2.2.1, o_this.2.2.2.2.2.2.2.2.2.2.2.2.2.2.2.1, o_this.2.2.2.2.2.2.2.2.2.2.2.2.2.2.2.2.1, o_this.2.2.2.2.2.2.2.2.2.2.2.2.2.2.2.2.2.1, o_this.2.2.2.2.2.2.2.2.2.2.2.2.2.2.2.2.2.2.1, o_this.2.2.2.2.2.2.2.2.2.2.2.2.2.2.2.2.2.2.2.1, o_this.2.2.2.2.2.2.2.2.2.2.2.2.2.2.2.2.2.2.2.2.1, o_this.2.2.2.2.2.2.2.2.2.2.2.2.2.2.2.2.2.2.2.2.2.1, o_this.2.2.2.2.2.2.2.2.2.2.2.2.2.2.2.2.2.2.2.2.2.2.1, o_this.2.2.2.2.2.2.2.2.2.2.2.2.2.2.2.2.2.2.2.2.2.2.2.1, o_this.2.2.2.2.2.2.2.2.2.2.2.2.2.2.2.2.2.2.2.2.2.2.2.2)), (a_this_bytes, .inl (k_this_bytes, 2048, .inl r_this_bytes)), (a_this_keys, .inl (k_this_keys, 8, .inl r_this_keys)), (a_this_reg, .inl (k_this_reg, 16, .inl r_this_reg))] H := hP
                  have hD : va_D A [(a_this, oX8 a_this_bytes a_this_keys a_this_reg a_this_card a_this_filled a_this_taken a_this_line a_this_one a_this_two (o_this.1, o_this.2.1, 2, o_this.2.2.2.1, o_this.2.2.2.2.1, o_this.2.2.2.2.2.1, o_this.2.2.2.2.2.2.1, o_this.2.2.2.2.2.2.2.1, o_this.2.2.2.2.2.2.2.2.1, o_this.2.2.2.2.2.2.2.2.2.1, o_this.2.2.2.2.2.2.2.2.2.2.1, o_this.2.2.2.2.2.2.2.2.2.2.2.1, o_this.2.2.2.2.2.2.2.2.2.2.2.2.1, o_this.2.2.2.2.2.2.2.2.2.2.2.2.2.1, o_this.2.2.2.2.2.2.2.2.2.2.2.2.2.2.1, o_this.2.2.2.2.2.2.2.2.2.2.2.2.2.2.2.1, o_this.2.2.2.2.2.2.2.2.2.2.2.2.2.2.2.2.1, o_this.2.2.2.2.2.2.2.2.2.2.2.2.2.2.2.2.2.1, o_this.2.2.2.2.2.2.2.2.2.2.2.2.2.2.2.2.2.2.1, o_this.2.2.2.2.2.2.2.2.2.2.2.2.2.2.2.2.2.2.2.1, o_this.2.2.2.2.2.2.2.2.2.2.2.2.2.2.2.2.2.2.2.2.1, o_this.2.2.2.2.2.2.2.2.2.2.2.2.2.2.2.2.2.2.2.2.2.1, o_this.2.2.2.2.2.2.2.2.2.2.2.2.2.2.2.2.2.2.2.2.2.2.1, o_this.2.2.2.2.2.2.2.2.2.2.2.2.2.2.2.2.2.2.2.2.2.2.2.1, o_this.2.2.2.2.2.2.2.2.2.2.2.2.2.2.2.2.2.2.2.2.2.2.2.2)), (a_this_bytes, .inl (k_this_bytes, 2048, .inl r_this_bytes)), (a_this_keys, .inl (k_this_keys, 8, .inl r_this_keys)), (a_this_reg, .inl (k_this_reg, 16, .inl r_this_reg))] := hD
                  refine lv_aload_n hx hb dX8_doStored_254 rfl (lv_at hl 2 rfl) ?_
                  refine lv_aload_n hx hb dX8_doStored_255 rfl (lv_at hl 2 rfl) ?_
                  refine gf_X8_193 (v := .int (bI o_this.2.2.2.2.2.2.2.2.2.2.1)) hx hb hown ht hK hP 0 rfl rfl dX8_doStored_256 ?_
                  refine lv_if_eq (tgt := 273) hx hb dX8_doStored_259 (by decide) (fun c_95 => ?_) (fun c_95 => ?_)
                  · have c_95 : ¬ o_this.2.2.2.2.2.2.2.2.2.2.1 = true := by rw [(bI_eq0 _).mp c_95]; decide
                    rw [if_neg c_95] at hF
                    refine lv_iconst (v := 0) hx hb dX8_doStored_273 (by decide) ?_
                    refine pf_X8_80 (x := false) hx hb hown ht hK hP hD hS 0 rfl (Nat.le_of_ble_eq_true rfl) dX8_doStored_274 (fun H locs hP hD hS => ?_)
                    have hP : va_P D vwCl [(a_this, oX8 a_this_bytes a_this_keys a_this_reg a_this_card a_this_filled a_this_taken a_this_line a_this_one a_this_two (o_this.1, o_this.2.1, 2, o_this.2.2.2.1, o_this.2.2.2.2.1, false, o_this.2.2.2.2.2.2.1, o_this.2.2.2.2.2.2.2.1, o_this.2.2.2.2.2.2.2.2.1, o_this.2.2.2.2.2.2.2.2.2.1, o_this.2.2.2.2.2.2.2.2.2.2.1, o_this.2.2.2.2.2.2.2.2.2.2.2.1, o_this.2.2.2.2.2.2.2.2.2.2.2.2.1, o_this.2.2.2.2.2.2.2.2.2.2.2.2.2.1, o_this.2.2.2.2.2.2.2.2.2.2.2.2.2.2.1, o_this.2.2.2.2.2.2.2.2.2.2.2.2.2.2.2.1, o_this.2.2.2.2.2.2.2.2.2.2.2.2.2.2.2.2.1, o_this.2.2.2.2.2.2.2.2.2.2.2.2.2.2.2.2.2.1, o_this.2.2.2.2.2.2.2.2.2.2.2.2.2.2.2.2.2.2.1, o_this.2.2.2.2.2.2.2.2.2.2.2.2.2.2.2.2.2.2.2.1, o_this.2.2.2.2.2.2.2.2.2.2.2.2.2.2.2.2.2.2.2.2.1, o_this.2.2.2.2.2.2.2.2.2.2.2.2.2.2.2.2.2.2.2.2.2.1, o_this.2.2.2.2.2.2.2.2.2.2.2.2.2.2.2.2.2.2.2.2.2.2.1, o_this.2.2.2.2.2.2.2.2.2.2.2.2.2.2.2.2.2.2.2.2.2.2.2.1, o_this.2.2.2.2.2.2.2.2.2.2.2.2.2.2.2.2.2.2.2.2.2.2.2.2)), (a_this_bytes, .inl (k_this_bytes, 2048, .inl r_this_bytes)), (a_this_keys, .inl (k_this_keys, 8, .inl r_this_keys)), (a_this_reg, .inl (k_this_reg, 16, .inl r_this_reg))] H := hP
                    have hD : va_D A [(a_this, oX8 a_this_bytes a_this_keys a_this_reg a_this_card a_this_filled a_this_taken a_this_line a_this_one a_this_two (o_this.1, o_this.2.1, 2, o_this.2.2.2.1, o_this.2.2.2.2.1, false, o_this.2.2.2.2.2.2.1, o_this.2.2.2.2.2.2.2.1, o_this.2.2.2.2.2.2.2.2.1, o_this.2.2.2.2.2.2.2.2.2.1, o_this.2.2.2.2.2.2.2.2.2.2.1, o_this.2.2.2.2.2.2.2.2.2.2.2.1, o_this.2.2.2.2.2.2.2.2.2.2.2.2.1, o_this.2.2.2.2.2.2.2.2.2.2.2.2.2.1, o_this.2.2.2.2.2.2.2.2.2.2.2.2.2.2.1, o_this.2.2.2.2.2.2.2.2.2.2.2.2.2.2.2.1, o_this.2.2.2.2.2.2.2.2.2.2.2.2.2.2.2.2.1, o_this.2.2.2.2.2.2.2.2.2.2.2.2.2.2.2.2.2.1, o_this.2.2.2.2.2.2.2.2.2.2.2.2.2.2.2.2.2.2.1, o_this.2.2.2.2.2.2.2.2.2.2.2.2.2.2.2.2.2.2.2.1, o_this.2.2.2.2.2.2.2.2.2.2.2.2.2.2.2.2.2.2.2.2.1, o_this.2.2.2.2.2.2.2.2.2.2.2.2.2.2.2.2.2.2.2.2.2.1, o_this.2.2.2.2.2.2.2.2.2.2.2.2.2.2.2.2.2.2.2.2.2.2.1, o_this.2.2.2.2.2.2.2.2.2.2.2.2.2.2.2.2.2.2.2.2.2.2.2.1, o_this.2.2.2.2.2.2.2.2.2.2.2.2.2.2.2.2.2.2.2.2.2.2.2.2)), (a_this_bytes, .inl (k_this_bytes, 2048, .inl r_this_bytes)), (a_this_keys, .inl (k_this_keys, 8, .inl r_this_keys)), (a_this_reg, .inl (k_this_reg, 16, .inl r_this_reg))] := hD
                    refine lv_goto (tgt := 323) hx hb dX8_doStored_277 (by decide) ?_
                    exact hQ ((o_this.1, o_this.2.1, 2, o_this.2.2.2.1, o_this.2.2.2.2.1, false, o_this.2.2.2.2.2.2.1, o_this.2.2.2.2.2.2.2.1, o_this.2.2.2.2.2.2.2.2.1, o_this.2.2.2.2.2.2.2.2.2.1, o_this.2.2.2.2.2.2.2.2.2.2.1, o_this.2.2.2.2.2.2.2.2.2.2.2.1, o_this.2.2.2.2.2.2.2.2.2.2.2.2.1, o_this.2.2.2.2.2.2.2.2.2.2.2.2.2.1, o_this.2.2.2.2.2.2.2.2.2.2.2.2.2.2.1, o_this.2.2.2.2.2.2.2.2.2.2.2.2.2.2.2.1, o_this.2.2.2.2.2.2.2.2.2.2.2.2.2.2.2.2.1, o_this.2.2.2.2.2.2.2.2.2.2.2.2.2.2.2.2.2.1, o_this.2.2.2.2.2.2.2.2.2.2.2.2.2.2.2.2.2.2.1, o_this.2.2.2.2.2.2.2.2.2.2.2.2.2.2.2.2.2.2.2.1, o_this.2.2.2.2.2.2.2.2.2.2.2.2.2.2.2.2.2.2.2.2.1, o_this.2.2.2.2.2.2.2.2.2.2.2.2.2.2.2.2.2.2.2.2.2.1, o_this.2.2.2.2.2.2.2.2.2.2.2.2.2.2.2.2.2.2.2.2.2.2.1, o_this.2.2.2.2.2.2.2.2.2.2.2.2.2.2.2.2.2.2.2.2.2.2.2.1, o_this.2.2.2.2.2.2.2.2.2.2.2.2.2.2.2.2.2.2.2.2.2.2.2.2), r_this_bytes, r_this_reg) _ _ _ _ dX8_doStored_323 hF.symm hP hD hS
                  · have c_95 := (bI_ne0 _).mp c_95
                    rw [if_pos c_95] at hF
                    refine lv_aload_n hx hb dX8_doStored_262 rfl (lv_at hl 2 rfl) ?_
                    refine gf_X8_80 (v := .int (bI o_this.2.2.2.2.2.1)) hx hb hown ht hK hP 0 rfl rfl dX8_doStored_263 ?_
                    refine lv_if_eq (tgt := 273) hx hb dX8_doStored_266 (by decide) (fun c_96 => ?_) (fun c_96 => ?_)
                    · have c_96 : ¬ o_this.2.2.2.2.2.1 = true := by rw [(bI_eq0 _).mp c_96]; decide
                      rw [if_neg c_96] at hF
                      refine lv_iconst (v := 0) hx hb dX8_doStored_273 (by decide) ?_
                      refine pf_X8_80 (x := false) hx hb hown ht hK hP hD hS 0 rfl (Nat.le_of_ble_eq_true rfl) dX8_doStored_274 (fun H locs hP hD hS => ?_)
                      have hP : va_P D vwCl [(a_this, oX8 a_this_bytes a_this_keys a_this_reg a_this_card a_this_filled a_this_taken a_this_line a_this_one a_this_two (o_this.1, o_this.2.1, 2, o_this.2.2.2.1, o_this.2.2.2.2.1, false, o_this.2.2.2.2.2.2.1, o_this.2.2.2.2.2.2.2.1, o_this.2.2.2.2.2.2.2.2.1, o_this.2.2.2.2.2.2.2.2.2.1, o_this.2.2.2.2.2.2.2.2.2.2.1, o_this.2.2.2.2.2.2.2.2.2.2.2.1, o_this.2.2.2.2.2.2.2.2.2.2.2.2.1, o_this.2.2.2.2.2.2.2.2.2.2.2.2.2.1, o_this.2.2.2.2.2.2.2.2.2.2.2.2.2.2.1, o_this.2.2.2.2.2.2.2.2.2.2.2.2.2.2.2.1, o_this.2.2.2.2.2.2.2.2.2.2.2.2.2.2.2.2.1, o_this.2.2.2.2.2.2.2.2.2.2.2.2.2.2.2.2.2.1, o_this.2.2.2.2.2.2.2.2.2.2.2.2.2.2.2.2.2.2.1, o_this.2.2.2.2.2.2.2.2.2.2.2.2.2.2.2.2.2.2.2.1, o_this.2.2.2.2.2.2.2.2.2.2.2.2.2.2.2.2.2.2.2.2.1, o_this.2.2.2.2.2.2.2.2.2.2.2.2.2.2.2.2.2.2.2.2.2.1, o_this.2.2.2.2.2.2.2.2.2.2.2.2.2.2.2.2.2.2.2.2.2.2.1, o_this.2.2.2.2.2.2.2.2.2.2.2.2.2.2.2.2.2.2.2.2.2.2.2.1, o_this.2.2.2.2.2.2.2.2.2.2.2.2.2.2.2.2.2.2.2.2.2.2.2.2)), (a_this_bytes, .inl (k_this_bytes, 2048, .inl r_this_bytes)), (a_this_keys, .inl (k_this_keys, 8, .inl r_this_keys)), (a_this_reg, .inl (k_this_reg, 16, .inl r_this_reg))] H := hP
                      have hD : va_D A [(a_this, oX8 a_this_bytes a_this_keys a_this_reg a_this_card a_this_filled a_this_taken a_this_line a_this_one a_this_two (o_this.1, o_this.2.1, 2, o_this.2.2.2.1, o_this.2.2.2.2.1, false, o_this.2.2.2.2.2.2.1, o_this.2.2.2.2.2.2.2.1, o_this.2.2.2.2.2.2.2.2.1, o_this.2.2.2.2.2.2.2.2.2.1, o_this.2.2.2.2.2.2.2.2.2.2.1, o_this.2.2.2.2.2.2.2.2.2.2.2.1, o_this.2.2.2.2.2.2.2.2.2.2.2.2.1, o_this.2.2.2.2.2.2.2.2.2.2.2.2.2.1, o_this.2.2.2.2.2.2.2.2.2.2.2.2.2.2.1, o_this.2.2.2.2.2.2.2.2.2.2.2.2.2.2.2.1, o_this.2.2.2.2.2.2.2.2.2.2.2.2.2.2.2.2.1, o_this.2.2.2.2.2.2.2.2.2.2.2.2.2.2.2.2.2.1, o_this.2.2.2.2.2.2.2.2.2.2.2.2.2.2.2.2.2.2.1, o_this.2.2.2.2.2.2.2.2.2.2.2.2.2.2.2.2.2.2.2.1, o_this.2.2.2.2.2.2.2.2.2.2.2.2.2.2.2.2.2.2.2.2.1, o_this.2.2.2.2.2.2.2.2.2.2.2.2.2.2.2.2.2.2.2.2.2.1, o_this.2.2.2.2.2.2.2.2.2.2.2.2.2.2.2.2.2.2.2.2.2.2.1, o_this.2.2.2.2.2.2.2.2.2.2.2.2.2.2.2.2.2.2.2.2.2.2.2.1, o_this.2.2.2.2.2.2.2.2.2.2.2.2.2.2.2.2.2.2.2.2.2.2.2.2)), (a_this_bytes, .inl (k_this_bytes, 2048, .inl r_this_bytes)), (a_this_keys, .inl (k_this_keys, 8, .inl r_this_keys)), (a_this_reg, .inl (k_this_reg, 16, .inl r_this_reg))] := hD
                      refine lv_goto (tgt := 323) hx hb dX8_doStored_277 (by decide) ?_
                      exact hQ ((o_this.1, o_this.2.1, 2, o_this.2.2.2.1, o_this.2.2.2.2.1, false, o_this.2.2.2.2.2.2.1, o_this.2.2.2.2.2.2.2.1, o_this.2.2.2.2.2.2.2.2.1, o_this.2.2.2.2.2.2.2.2.2.1, o_this.2.2.2.2.2.2.2.2.2.2.1, o_this.2.2.2.2.2.2.2.2.2.2.2.1, o_this.2.2.2.2.2.2.2.2.2.2.2.2.1, o_this.2.2.2.2.2.2.2.2.2.2.2.2.2.1, o_this.2.2.2.2.2.2.2.2.2.2.2.2.2.2.1, o_this.2.2.2.2.2.2.2.2.2.2.2.2.2.2.2.1, o_this.2.2.2.2.2.2.2.2.2.2.2.2.2.2.2.2.1, o_this.2.2.2.2.2.2.2.2.2.2.2.2.2.2.2.2.2.1, o_this.2.2.2.2.2.2.2.2.2.2.2.2.2.2.2.2.2.2.1, o_this.2.2.2.2.2.2.2.2.2.2.2.2.2.2.2.2.2.2.2.1, o_this.2.2.2.2.2.2.2.2.2.2.2.2.2.2.2.2.2.2.2.2.1, o_this.2.2.2.2.2.2.2.2.2.2.2.2.2.2.2.2.2.2.2.2.2.1, o_this.2.2.2.2.2.2.2.2.2.2.2.2.2.2.2.2.2.2.2.2.2.2.1, o_this.2.2.2.2.2.2.2.2.2.2.2.2.2.2.2.2.2.2.2.2.2.2.2.1, o_this.2.2.2.2.2.2.2.2.2.2.2.2.2.2.2.2.2.2.2.2.2.2.2.2), r_this_bytes, r_this_reg) _ _ _ _ dX8_doStored_323 hF.symm hP hD hS
                    · have c_96 := (bI_ne0 _).mp c_96
                      rw [if_pos c_96] at hF
                      refine lv_iconst (v := 1) hx hb dX8_doStored_269 (by decide) ?_
                      refine lv_goto (tgt := 274) hx hb dX8_doStored_270 (by decide) ?_
                      refine pf_X8_80 (x := true) hx hb hown ht hK hP hD hS 0 rfl (Nat.le_of_ble_eq_true rfl) dX8_doStored_274 (fun H locs hP hD hS => ?_)
                      have hP : va_P D vwCl [(a_this, oX8 a_this_bytes a_this_keys a_this_reg a_this_card a_this_filled a_this_taken a_this_line a_this_one a_this_two (o_this.1, o_this.2.1, 2, o_this.2.2.2.1, o_this.2.2.2.2.1, true, o_this.2.2.2.2.2.2.1, o_this.2.2.2.2.2.2.2.1, o_this.2.2.2.2.2.2.2.2.1, o_this.2.2.2.2.2.2.2.2.2.1, o_this.2.2.2.2.2.2.2.2.2.2.1, o_this.2.2.2.2.2.2.2.2.2.2.2.1, o_this.2.2.2.2.2.2.2.2.2.2.2.2.1, o_this.2.2.2.2.2.2.2.2.2.2.2.2.2.1, o_this.2.2.2.2.2.2.2.2.2.2.2.2.2.2.1, o_this.2.2.2.2.2.2.2.2.2.2.2.2.2.2.2.1, o_this.2.2.2.2.2.2.2.2.2.2.2.2.2.2.2.2.1, o_this.2.2.2.2.2.2.2.2.2.2.2.2.2.2.2.2.2.1, o_this.2.2.2.2.2.2.2.2.2.2.2.2.2.2.2.2.2.2.1, o_this.2.2.2.2.2.2.2.2.2.2.2.2.2.2.2.2.2.2.2.1, o_this.2.2.2.2.2.2.2.2.2.2.2.2.2.2.2.2.2.2.2.2.1, o_this.2.2.2.2.2.2.2.2.2.2.2.2.2.2.2.2.2.2.2.2.2.1, o_this.2.2.2.2.2.2.2.2.2.2.2.2.2.2.2.2.2.2.2.2.2.2.1, o_this.2.2.2.2.2.2.2.2.2.2.2.2.2.2.2.2.2.2.2.2.2.2.2.1, o_this.2.2.2.2.2.2.2.2.2.2.2.2.2.2.2.2.2.2.2.2.2.2.2.2)), (a_this_bytes, .inl (k_this_bytes, 2048, .inl r_this_bytes)), (a_this_keys, .inl (k_this_keys, 8, .inl r_this_keys)), (a_this_reg, .inl (k_this_reg, 16, .inl r_this_reg))] H := hP
                      have hD : va_D A [(a_this, oX8 a_this_bytes a_this_keys a_this_reg a_this_card a_this_filled a_this_taken a_this_line a_this_one a_this_two (o_this.1, o_this.2.1, 2, o_this.2.2.2.1, o_this.2.2.2.2.1, true, o_this.2.2.2.2.2.2.1, o_this.2.2.2.2.2.2.2.1, o_this.2.2.2.2.2.2.2.2.1, o_this.2.2.2.2.2.2.2.2.2.1, o_this.2.2.2.2.2.2.2.2.2.2.1, o_this.2.2.2.2.2.2.2.2.2.2.2.1, o_this.2.2.2.2.2.2.2.2.2.2.2.2.1, o_this.2.2.2.2.2.2.2.2.2.2.2.2.2.1, o_this.2.2.2.2.2.2.2.2.2.2.2.2.2.2.1, o_this.2.2.2.2.2.2.2.2.2.2.2.2.2.2.2.1, o_this.2.2.2.2.2.2.2.2.2.2.2.2.2.2.2.2.1, o_this.2.2.2.2.2.2.2.2.2.2.2.2.2.2.2.2.2.1, o_this.2.2.2.2.2.2.2.2.2.2.2.2.2.2.2.2.2.2.1, o_this.2.2.2.2.2.2.2.2.2.2.2.2.2.2.2.2.2.2.2.1, o_this.2.2.2.2.2.2.2.2.2.2.2.2.2.2.2.2.2.2.2.2.1, o_this.2.2.2.2.2.2.2.2.2.2.2.2.2.2.2.2.2.2.2.2.2.1, o_this.2.2.2.2.2.2.2.2.2.2.2.2.2.2.2.2.2.2.2.2.2.2.1, o_this.2.2.2.2.2.2.2.2.2.2.2.2.2.2.2.2.2.2.2.2.2.2.2.1, o_this.2.2.2.2.2.2.2.2.2.2.2.2.2.2.2.2.2.2.2.2.2.2.2.2)), (a_this_bytes, .inl (k_this_bytes, 2048, .inl r_this_bytes)), (a_this_keys, .inl (k_this_keys, 8, .inl r_this_keys)), (a_this_reg, .inl (k_this_reg, 16, .inl r_this_reg))] := hD
                      refine lv_goto (tgt := 323) hx hb dX8_doStored_277 (by decide) ?_
                      exact hQ ((o_this.1, o_this.2.1, 2, o_this.2.2.2.1, o_this.2.2.2.2.1, true, o_this.2.2.2.2.2.2.1, o_this.2.2.2.2.2.2.2.1, o_this.2.2.2.2.2.2.2.2.1, o_this.2.2.2.2.2.2.2.2.2.1, o_this.2.2.2.2.2.2.2.2.2.2.1, o_this.2.2.2.2.2.2.2.2.2.2.2.1, o_this.2.2.2.2.2.2.2.2.2.2.2.2.1, o_this.2.2.2.2.2.2.2.2.2.2.2.2.2.1, o_this.2.2.2.2.2.2.2.2.2.2.2.2.2.2.1, o_this.2.2.2.2.2.2.2.2.2.2.2.2.2.2.2.1, o_this.2.2.2.2.2.2.2.2.2.2.2.2.2.2.2.2.1, o_this.2.2.2.2.2.2.2.2.2.2.2.2.2.2.2.2.2.1, o_this.2.2.2.2.2.2.2.2.2.2.2.2.2.2.2.2.2.2.1, o_this.2.2.2.2.2.2.2.2.2.2.2.2.2.2.2.2.2.2.2.1, o_this.2.2.2.2.2.2.2.2.2.2.2.2.2.2.2.2.2.2.2.2.1, o_this.2.2.2.2.2.2.2.2.2.2.2.2.2.2.2.2.2.2.2.2.2.1, o_this.2.2.2.2.2.2.2.2.2.2.2.2.2.2.2.2.2.2.2.2.2.2.1, o_this.2.2.2.2.2.2.2.2.2.2.2.2.2.2.2.2.2.2.2.2.2.2.2.1, o_this.2.2.2.2.2.2.2.2.2.2.2.2.2.2.2.2.2.2.2.2.2.2.2.2), r_this_bytes, r_this_reg) _ _ _ _ dX8_doStored_323 hF.symm hP hD hS
            · skip
              rw [if_pos c_64] at hF
              rw [if_pos c_64] at hs
              refine lv_aload_n hx hb dX8_doStored_212 rfl (lv_at hl 2 rfl) ?_
              refine lv_iload_n hx hb dX8_doStored_213 rfl (lv_at hl 4 rfl) ?_
              have hi_97 := hs
              refine q_Vv (rest := []) (c_X8_begin l D a_this a_this_bytes a_this_keys a_this_reg a_this_card a_this_filled a_this_taken a_this_line a_this_one a_this_two k_this_bytes o_this r_this_bytes p2 hi_97) cv_X8_begin hx hb hml hown ht hN hK hA hP hD hS hl.1 (km_X8_190) ⟨Nat.le_of_ble_eq_true rfl, Nat.le_of_ble_eq_true rfl⟩ rfl rfl [0, 1] (by decide) rfl [0] rfl (fun _ => rfl) (ci := 8) rfl rfl rfl rfl rfl (Nat.le_of_ble_eq_true rfl) dX8_doStored_214 ⟨Nat.zero_le _, Nat.zero_le _⟩ (fun w_98 H locs hw hP hD hS => ?_)
              have hP : va_P D vwCl [(a_this, oX8 a_this_bytes a_this_keys a_this_reg a_this_card a_this_filled a_this_taken a_this_line a_this_one a_this_two w_98), (a_this_bytes, .inl (k_this_bytes, 2048, .inl r_this_bytes)), (a_this_keys, .inl (k_this_keys, 8, .inl r_this_keys)), (a_this_reg, .inl (k_this_reg, 16, .inl r_this_reg))] H := hP
              have hD : va_D A [(a_this, oX8 a_this_bytes a_this_keys a_this_reg a_this_card a_this_filled a_this_taken a_this_line a_this_one a_this_two w_98), (a_this_bytes, .inl (k_this_bytes, 2048, .inl r_this_bytes)), (a_this_keys, .inl (k_this_keys, 8, .inl r_this_keys)), (a_this_reg, .inl (k_this_reg, 16, .inl r_this_reg))] := hD
              rw [q_let_of hw] at hF
              refine lv_goto (tgt := 323) hx hb dX8_doStored_217 (by decide) ?_
              exact hQ (w_98, r_this_bytes, r_this_reg) _ _ _ _ dX8_doStored_323 hF.symm hP hD hS
          · skip
            rw [if_pos c_63] at hF
            rw [if_pos c_63] at hs
            refine lv_aload_n hx hb dX8_doStored_184 rfl (lv_at hl 2 rfl) ?_
            refine lv_iload_n hx hb dX8_doStored_185 rfl (lv_at hl 5 rfl) ?_
            refine lv_bipush (v := 8) hx hb dX8_doStored_186 (by decide) ?_
            refine lv_bipush (v := 8) hx hb dX8_doStored_188 (by decide) ?_
            refine lv_iconst (v := 0) hx hb dX8_doStored_190 (by decide) ?_
            obtain ⟨hi_99, hs⟩ := hs
            refine q_Vi (rest := []) (c_X8_good l D a_this a_this_keys a_this_bytes a_this_reg a_this_card a_this_filled a_this_taken a_this_line a_this_one a_this_two k_this_keys o_this r_this_keys p3 8 8 false hi_99) cv_X8_good hx hb hml hown ht hN hK hA hP hD hS hl.1 (km_X8_158) ⟨Nat.le_of_ble_eq_true rfl, Nat.le_of_ble_eq_true rfl⟩ rfl rfl [0, 2] (by decide) rfl [1] rfl (fun _ => rfl) (ci := 8) rfl rfl rfl rfl rfl (Nat.le_of_ble_eq_true rfl) dX8_doStored_191 ⟨Nat.zero_le _, Nat.zero_le _⟩ (fun r w_100 H locs hw hP hD hS => ?_)
            obtain ⟨hw, hr⟩ := hw
            subst hr
            have hP : va_P D vwCl [(a_this, oX8 a_this_bytes a_this_keys a_this_reg a_this_card a_this_filled a_this_taken a_this_line a_this_one a_this_two w_100.2), (a_this_bytes, .inl (k_this_bytes, 2048, .inl r_this_bytes)), (a_this_keys, .inl (k_this_keys, 8, .inl r_this_keys)), (a_this_reg, .inl (k_this_reg, 16, .inl r_this_reg))] H := hP
            have hD : va_D A [(a_this, oX8 a_this_bytes a_this_keys a_this_reg a_this_card a_this_filled a_this_taken a_this_line a_this_one a_this_two w_100.2), (a_this_bytes, .inl (k_this_bytes, 2048, .inl r_this_bytes)), (a_this_keys, .inl (k_this_keys, 8, .inl r_this_keys)), (a_this_reg, .inl (k_this_reg, 16, .inl r_this_reg))] := hD
            rw [q_let_of hw] at hF
            rw [q_let_of hw] at hs
            refine lv_if_eq (tgt := 323) hx hb dX8_doStored_194 (by decide) (fun c_101 => ?_) (fun c_101 => ?_)
            · have c_101 : ¬ w_100.1 = true := by rw [(bI_eq0 _).mp c_101]; decide
              rw [if_neg c_101] at hF
              rw [if_neg c_101] at hs
              exact hQ (w_100.2, r_this_bytes, r_this_reg) _ _ _ _ dX8_doStored_323 hF.symm hP hD hS
            · have c_101 := (bI_ne0 _).mp c_101
              rw [if_pos c_101] at hF
              rw [if_pos c_101] at hs
              refine lv_aload_n hx hb dX8_doStored_197 rfl (lv_at hl 2 rfl) ?_
              refine lv_iload_n hx hb dX8_doStored_198 rfl (lv_at hl 5 rfl) ?_
              have hi_102 := hs
              refine q_Vv (rest := []) (c_X8_loadStatus l D a_this a_this_bytes a_this_keys a_this_reg a_this_card a_this_filled a_this_taken a_this_line a_this_one a_this_two k_this_bytes w_100.2 r_this_bytes p3 hi_102) cv_X8_loadStatus hx hb hml hown ht hN hK hA hP hD hS hl.1 (km_X8_62) ⟨Nat.le_of_ble_eq_true rfl, Nat.le_of_ble_eq_true rfl⟩ rfl rfl [0, 1] (by decide) rfl [0] rfl (fun _ => rfl) (ci := 8) rfl rfl rfl rfl rfl (Nat.le_of_ble_eq_true rfl) dX8_doStored_199 ⟨Nat.zero_le _, Nat.zero_le _⟩ (fun w_103 H locs hw hP hD hS => ?_)
              have hP : va_P D vwCl [(a_this, oX8 a_this_bytes a_this_keys a_this_reg a_this_card a_this_filled a_this_taken a_this_line a_this_one a_this_two w_103), (a_this_bytes, .inl (k_this_bytes, 2048, .inl r_this_bytes)), (a_this_keys, .inl (k_this_keys, 8, .inl r_this_keys)), (a_this_reg, .inl (k_this_reg, 16, .inl r_this_reg))] H := hP
              have hD : va_D A [(a_this, oX8 a_this_bytes a_this_keys a_this_reg a_this_card a_this_filled a_this_taken a_this_line a_this_one a_this_two w_103), (a_this_bytes, .inl (k_this_bytes, 2048, .inl r_this_bytes)), (a_this_keys, .inl (k_this_keys, 8, .inl r_this_keys)), (a_this_reg, .inl (k_this_reg, 16, .inl r_this_reg))] := hD
              rw [q_let_of hw] at hF
              refine lv_goto (tgt := 323) hx hb dX8_doStored_202 (by decide) ?_
              exact hQ (w_103, r_this_bytes, r_this_reg) _ _ _ _ dX8_doStored_323 hF.symm hP hD hS
        · skip
          rw [if_pos c_62] at hF
          rw [if_pos c_62] at hs
          refine lv_aload_n hx hb dX8_doStored_140 rfl (lv_at hl 2 rfl) ?_
          refine lv_iload_n hx hb dX8_doStored_141 rfl (lv_at hl 3 rfl) ?_
          refine lv_sipush (v := 144) hx hb dX8_doStored_142 (by decide) ?_
          refine lv_icmp_ne (tgt := 152) hx hb dX8_doStored_145 (by decide) (fun c_104 => ?_) (fun c_104 => ?_)
          · skip
            rw [if_neg c_104] at hF
            rw [if_neg c_104] at hs
            refine lv_iconst (v := 0) hx hb dX8_doStored_152 (by decide) ?_
            refine lv_iload hx hb dX8_doStored_153 (lv_at hl 1 rfl) ?_
            refine lv_iload_n hx hb dX8_doStored_155 rfl (lv_at hl 4 rfl) ?_
            refine lv_bipush (v := 16) hx hb dX8_doStored_156 (by decide) ?_
            refine lv_irem hx hb dX8_doStored_158 (by decide) ?_
            refine lv_iload hx hb dX8_doStored_159 (lv_at hl 1 rfl) ?_
            refine lv_isub hx hb dX8_doStored_161 ?_
            refine lv_bipush (v := 16) hx hb dX8_doStored_162 (by decide) ?_
            refine lv_iadd hx hb dX8_doStored_164 ?_
            refine lv_bipush (v := 16) hx hb dX8_doStored_165 (by decide) ?_
            refine lv_irem hx hb dX8_doStored_167 (by decide) ?_
            refine lv_iconst (v := 1) hx hb dX8_doStored_168 (by decide) ?_
            refine lv_iadd hx hb dX8_doStored_169 ?_
            refine lv_iload_n hx hb dX8_doStored_170 rfl (lv_at hl 5 rfl) ?_
            have hi_105 := hs
            refine q_Vv (rest := []) (c_X8_several l D a_this a_this_bytes a_this_keys a_this_reg a_this_card a_this_filled a_this_taken a_this_line a_this_one a_this_two k_this_bytes k_this_keys k_this_reg o_this r_this_bytes r_this_keys r_this_reg false (p2 / (16 : Int32)) (((((p2 - p2 / (16 : Int32) * (16 : Int32)) - (p2 / (16 : Int32))) + (16 : Int32)) - (((p2 - p2 / (16 : Int32) * (16 : Int32)) - (p2 / (16 : Int32))) + (16 : Int32)) / (16 : Int32) * (16 : Int32)) + (1 : Int32)) p3 hi_105) cv_X8_several hx hb hml hown ht hN hK hA hP hD hS hl.1 (km_X8_186) ⟨Nat.le_of_ble_eq_true rfl, Nat.le_of_ble_eq_true rfl⟩ rfl rfl [0, 1, 2, 3] (by decide) rfl [0, 1, 2] rfl (fun _ => rfl) (ci := 8) rfl rfl rfl rfl rfl (Nat.le_of_ble_eq_true rfl) dX8_doStored_171 ⟨Nat.zero_le _, Nat.zero_le _⟩ (fun w_106 H locs hw hP hD hS => ?_)
            have hP : va_P D vwCl [(a_this, oX8 a_this_bytes a_this_keys a_this_reg a_this_card a_this_filled a_this_taken a_this_line a_this_one a_this_two w_106.1), (a_this_bytes, .inl (k_this_bytes, 2048, .inl w_106.2.1)), (a_this_keys, .inl (k_this_keys, 8, .inl r_this_keys)), (a_this_reg, .inl (k_this_reg, 16, .inl w_106.2.2))] H := hP
            have hD : va_D A [(a_this, oX8 a_this_bytes a_this_keys a_this_reg a_this_card a_this_filled a_this_taken a_this_line a_this_one a_this_two w_106.1), (a_this_bytes, .inl (k_this_bytes, 2048, .inl w_106.2.1)), (a_this_keys, .inl (k_this_keys, 8, .inl r_this_keys)), (a_this_reg, .inl (k_this_reg, 16, .inl w_106.2.2))] := hD
            rw [q_let_of hw] at hF
            refine lv_goto (tgt := 323) hx hb dX8_doStored_174 (by decide) ?_
            exact hQ (w_106.1, w_106.2.1, w_106.2.2) _ _ _ _ dX8_doStored_323 hF.symm hP hD hS
          · skip
            rw [if_pos c_104] at hF
            rw [if_pos c_104] at hs
            refine lv_iconst (v := 1) hx hb dX8_doStored_148 (by decide) ?_
            refine lv_goto (tgt := 153) hx hb dX8_doStored_149 (by decide) ?_
            refine lv_iload hx hb dX8_doStored_153 (lv_at hl 1 rfl) ?_
            refine lv_iload_n hx hb dX8_doStored_155 rfl (lv_at hl 4 rfl) ?_
            refine lv_bipush (v := 16) hx hb dX8_doStored_156 (by decide) ?_
            refine lv_irem hx hb dX8_doStored_158 (by decide) ?_
            refine lv_iload hx hb dX8_doStored_159 (lv_at hl 1 rfl) ?_
            refine lv_isub hx hb dX8_doStored_161 ?_
            refine lv_bipush (v := 16) hx hb dX8_doStored_162 (by decide) ?_
            refine lv_iadd hx hb dX8_doStored_164 ?_
            refine lv_bipush (v := 16) hx hb dX8_doStored_165 (by decide) ?_
            refine lv_irem hx hb dX8_doStored_167 (by decide) ?_
            refine lv_iconst (v := 1) hx hb dX8_doStored_168 (by decide) ?_
            refine lv_iadd hx hb dX8_doStored_169 ?_
            refine lv_iload_n hx hb dX8_doStored_170 rfl (lv_at hl 5 rfl) ?_
            have hi_107 := hs
            refine q_Vv (rest := []) (c_X8_several l D a_this a_this_bytes a_this_keys a_this_reg a_this_card a_this_filled a_this_taken a_this_line a_this_one a_this_two k_this_bytes k_this_keys k_this_reg o_this r_this_bytes r_this_keys r_this_reg true (p2 / (16 : Int32)) (((((p2 - p2 / (16 : Int32) * (16 : Int32)) - (p2 / (16 : Int32))) + (16 : Int32)) - (((p2 - p2 / (16 : Int32) * (16 : Int32)) - (p2 / (16 : Int32))) + (16 : Int32)) / (16 : Int32) * (16 : Int32)) + (1 : Int32)) p3 hi_107) cv_X8_several hx hb hml hown ht hN hK hA hP hD hS hl.1 (km_X8_186) ⟨Nat.le_of_ble_eq_true rfl, Nat.le_of_ble_eq_true rfl⟩ rfl rfl [0, 1, 2, 3] (by decide) rfl [0, 1, 2] rfl (fun _ => rfl) (ci := 8) rfl rfl rfl rfl rfl (Nat.le_of_ble_eq_true rfl) dX8_doStored_171 ⟨Nat.zero_le _, Nat.zero_le _⟩ (fun w_108 H locs hw hP hD hS => ?_)
            have hP : va_P D vwCl [(a_this, oX8 a_this_bytes a_this_keys a_this_reg a_this_card a_this_filled a_this_taken a_this_line a_this_one a_this_two w_108.1), (a_this_bytes, .inl (k_this_bytes, 2048, .inl w_108.2.1)), (a_this_keys, .inl (k_this_keys, 8, .inl r_this_keys)), (a_this_reg, .inl (k_this_reg, 16, .inl w_108.2.2))] H := hP
            have hD : va_D A [(a_this, oX8 a_this_bytes a_this_keys a_this_reg a_this_card a_this_filled a_this_taken a_this_line a_this_one a_this_two w_108.1), (a_this_bytes, .inl (k_this_bytes, 2048, .inl w_108.2.1)), (a_this_keys, .inl (k_this_keys, 8, .inl r_this_keys)), (a_this_reg, .inl (k_this_reg, 16, .inl w_108.2.2))] := hD
            rw [q_let_of hw] at hF
            refine lv_goto (tgt := 323) hx hb dX8_doStored_174 (by decide) ?_
            exact hQ (w_108.1, w_108.2.1, w_108.2.2) _ _ _ _ dX8_doStored_323 hF.symm hP hD hS
    · skip
      rw [if_neg c_55] at hF
      rw [if_neg c_55] at hs
      refine lv_aload_n hx hb dX8_doStored_26 rfl (lv_at hl 2 rfl) ?_
      refine gf_X8_16 (v := .ref a_this_reg) hx hb hown ht hK hP 0 rfl rfl dX8_doStored_27 ?_
      refine lv_iload hx hb dX8_doStored_30 (lv_at hl 1 rfl) ?_
      obtain ⟨hi_109, hs⟩ := hs
      refine va_iald hx hb hK hP 3 2 rfl rfl hi_109 dX8_doStored_32 ?_
      refine lv_istore (lv' := [(6, .int (r_this_reg (p2 / (16 : Int32)).toNatClampNeg)), (5, .int (p3 &&& (63 : Int32))), (4, .int (p2 / (16 : Int32))), (0, .ref a_this), (1, .int p1), (2, .int p2), (3, .int p3)]) hx hb dX8_doStored_33 hl (by decide) rfl (fun ls hl => ?_)
      refine lv_iload hx hb dX8_doStored_35 (lv_at hl 1 rfl) ?_
      refine lv_bipush (v := 31) hx hb dX8_doStored_37 (by decide) ?_
      refine lv_icmp_le (tgt := 47) hx hb dX8_doStored_39 (by decide) (fun c_110 => ?_) (fun c_110 => ?_)
      · skip
        rw [if_pos c_110] at hF
        rw [if_pos c_110] at hs
        refine lv_iload hx hb dX8_doStored_47 (lv_at hl 1 rfl) ?_
        refine lv_istore (lv' := [(7, .int (p3 &&& (63 : Int32))), (6, .int (r_this_reg (p2 / (16 : Int32)).toNatClampNeg)), (5, .int (p3 &&& (63 : Int32))), (4, .int (p2 / (16 : Int32))), (0, .ref a_this), (1, .int p1), (2, .int p2), (3, .int p3)]) hx hb dX8_doStored_49 hl (by decide) rfl (fun ls hl => ?_)
        refine lv_aload_n hx hb dX8_doStored_51 rfl (lv_at hl 4 rfl) ?_
        refine gf_X8_16 (v := .ref a_this_reg) hx hb hown ht hK hP 0 rfl rfl dX8_doStored_52 ?_
        refine lv_iload hx hb dX8_doStored_55 (lv_at hl 3 rfl) ?_
        refine lv_iload_n hx hb dX8_doStored_57 rfl (lv_at hl 5 rfl) ?_
        refine lv_sipush (v := 138) hx hb dX8_doStored_58 (by decide) ?_
        refine lv_icmp_ne (tgt := 72) hx hb dX8_doStored_61 (by decide) (fun c_111 => ?_) (fun c_111 => ?_)
        · skip
          rw [if_neg c_111] at hF
          rw [if_neg c_111] at hs
          refine lv_iload hx hb dX8_doStored_72 (lv_at hl 2 rfl) ?_
          refine lv_bipush (v := 31) hx hb dX8_doStored_74 (by decide) ?_
          refine lv_icmp_le (tgt := 83) hx hb dX8_doStored_76 (by decide) (fun c_112 => ?_) (fun c_112 => ?_)
          · skip
            rw [if_pos c_112] at hF
            rw [if_pos c_112] at hs
            refine lv_iload_n hx hb dX8_doStored_83 rfl (lv_at hl 5 rfl) ?_
            refine lv_sipush (v := 136) hx hb dX8_doStored_84 (by decide) ?_
            refine lv_icmp_ne (tgt := 98) hx hb dX8_doStored_87 (by decide) (fun c_113 => ?_) (fun c_113 => ?_)
            · skip
              rw [if_neg c_113] at hF
              rw [if_neg c_113] at hs
              refine lv_iload hx hb dX8_doStored_98 (lv_at hl 1 rfl) ?_
              refine lv_iload hx hb dX8_doStored_100 (lv_at hl 2 rfl) ?_
              refine lv_ishl hx hb dX8_doStored_102 ?_
              obtain ⟨hi_114, hs⟩ := hs
              refine va_iast hx hb hK hP hD hS 3 2 rfl rfl hi_114 dX8_doStored_103 (fun H locs hP hD hS => ?_)
              have hP : va_P D vwCl [(a_this, oX8 a_this_bytes a_this_keys a_this_reg a_this_card a_this_filled a_this_taken a_this_line a_this_one a_this_two o_this), (a_this_bytes, .inl (k_this_bytes, 2048, .inl r_this_bytes)), (a_this_keys, .inl (k_this_keys, 8, .inl r_this_keys)), (a_this_reg, .inl (k_this_reg, 16, .inl (upd r_this_reg (p2 / (16 : Int32)).toNatClampNeg ((r_this_reg (p2 / (16 : Int32)).toNatClampNeg) <<< ((p3 &&& (63 : Int32)) &&& 31)))))] H := hP
              have hD : va_D A [(a_this, oX8 a_this_bytes a_this_keys a_this_reg a_this_card a_this_filled a_this_taken a_this_line a_this_one a_this_two o_this), (a_this_bytes, .inl (k_this_bytes, 2048, .inl r_this_bytes)), (a_this_keys, .inl (k_this_keys, 8, .inl r_this_keys)), (a_this_reg, .inl (k_this_reg, 16, .inl (upd r_this_reg (p2 / (16 : Int32)).toNatClampNeg ((r_this_reg (p2 / (16 : Int32)).toNatClampNeg) <<< ((p3 &&& (63 : Int32)) &&& 31)))))] := hD
              refine lv_iload_n hx hb dX8_doStored_104 rfl (lv_at hl 5 rfl) ?_
              refine lv_sipush (v := 138) hx hb dX8_doStored_105 (by decide) ?_
              refine lv_icmp_ne (tgt := 123) hx hb dX8_doStored_108 (by decide) (fun c_115 => ?_) (fun c_115 => ?_)
              · skip
                rw [if_neg c_115] at hF
                rw [if_neg c_115] at hs
                refine lv_goto (tgt := 323) hx hb dX8_doStored_123 (by decide) ?_
                exact hQ (o_this, r_this_bytes, (upd r_this_reg (p2 / (16 : Int32)).toNatClampNeg ((r_this_reg (p2 / (16 : Int32)).toNatClampNeg) <<< ((p3 &&& (63 : Int32)) &&& 31)))) _ _ _ _ dX8_doStored_323 hF.symm hP hD hS
              · skip
                rw [if_pos c_115] at hF
                rw [if_pos c_115] at hs
                refine lv_aload_n hx hb dX8_doStored_111 rfl (lv_at hl 4 rfl) ?_
                refine lv_aload_n hx hb dX8_doStored_112 rfl (lv_at hl 4 rfl) ?_
                refine gf_X8_16 (v := .ref a_this_reg) hx hb hown ht hK hP 0 rfl rfl dX8_doStored_113 ?_
                refine lv_iload hx hb dX8_doStored_116 (lv_at hl 3 rfl) ?_
                have hi_116 := hs
                refine va_iald hx hb hK hP 3 2 rfl rfl hi_116 dX8_doStored_118 ?_
                refine lv_i2l hx hb dX8_doStored_119 rfl ?_
                refine q_Vv (rest := []) (c_X8_sign l D a_this a_this_bytes a_this_keys a_this_reg a_this_card a_this_filled a_this_taken a_this_line a_this_one a_this_two o_this (((upd r_this_reg (p2 / (16 : Int32)).toNatClampNeg ((r_this_reg (p2 / (16 : Int32)).toNatClampNeg) <<< ((p3 &&& (63 : Int32)) &&& 31))) (p2 / (16 : Int32)).toNatClampNeg).toInt64)) cv_X8_sign hx hb hml hown ht hN hK hA hP hD hS hl.1 (km_X8_120) ⟨Nat.le_of_ble_eq_true rfl, Nat.le_of_ble_eq_true rfl⟩ rfl rfl [0] (by decide) rfl [] rfl (fun _ => rfl) (ci := 8) rfl rfl rfl rfl rfl (Nat.le_of_ble_eq_true rfl) dX8_doStored_120 ⟨Nat.zero_le _, Nat.zero_le _⟩ (fun w_117 H locs hw hP hD hS => ?_)
                have hP : va_P D vwCl [(a_this, oX8 a_this_bytes a_this_keys a_this_reg a_this_card a_this_filled a_this_taken a_this_line a_this_one a_this_two w_117), (a_this_bytes, .inl (k_this_bytes, 2048, .inl r_this_bytes)), (a_this_keys, .inl (k_this_keys, 8, .inl r_this_keys)), (a_this_reg, .inl (k_this_reg, 16, .inl (upd r_this_reg (p2 / (16 : Int32)).toNatClampNeg ((r_this_reg (p2 / (16 : Int32)).toNatClampNeg) <<< ((p3 &&& (63 : Int32)) &&& 31)))))] H := hP
                have hD : va_D A [(a_this, oX8 a_this_bytes a_this_keys a_this_reg a_this_card a_this_filled a_this_taken a_this_line a_this_one a_this_two w_117), (a_this_bytes, .inl (k_this_bytes, 2048, .inl r_this_bytes)), (a_this_keys, .inl (k_this_keys, 8, .inl r_this_keys)), (a_this_reg, .inl (k_this_reg, 16, .inl (upd r_this_reg (p2 / (16 : Int32)).toNatClampNeg ((r_this_reg (p2 / (16 : Int32)).toNatClampNeg) <<< ((p3 &&& (63 : Int32)) &&& 31)))))] := hD
                rw [q_let_of hw] at hF
                refine lv_goto (tgt := 323) hx hb dX8_doStored_123 (by decide) ?_
                exact hQ (w_117, r_this_bytes, (upd r_this_reg (p2 / (16 : Int32)).toNatClampNeg ((r_this_reg (p2 / (16 : Int32)).toNatClampNeg) <<< ((p3 &&& (63 : Int32)) &&& 31)))) _ _ _ _ dX8_doStored_323 hF.symm hP hD hS
            · skip
              rw [if_pos c_113] at hF
              rw [if_pos c_113] at hs
              refine lv_iload hx hb dX8_doStored_90 (lv_at hl 1 rfl) ?_
              refine lv_iload hx hb dX8_doStored_92 (lv_at hl 2 rfl) ?_
              refine lv_iushr hx hb dX8_doStored_94 rfl ?_
              refine lv_goto (tgt := 103) hx hb dX8_doStored_95 (by decide) ?_
              obtain ⟨hi_118, hs⟩ := hs
              refine va_iast hx hb hK hP hD hS 3 2 rfl rfl hi_118 dX8_doStored_103 (fun H locs hP hD hS => ?_)
              have hP : va_P D vwCl [(a_this, oX8 a_this_bytes a_this_keys a_this_reg a_this_card a_this_filled a_this_taken a_this_line a_this_one a_this_two o_this), (a_this_bytes, .inl (k_this_bytes, 2048, .inl r_this_bytes)), (a_this_keys, .inl (k_this_keys, 8, .inl r_this_keys)), (a_this_reg, .inl (k_this_reg, 16, .inl (upd r_this_reg (p2 / (16 : Int32)).toNatClampNeg (((r_this_reg (p2 / (16 : Int32)).toNatClampNeg).toUInt32 >>> ((p3 &&& (63 : Int32)).toUInt32 &&& Int32.toUInt32 31)).toInt32))))] H := hP
              have hD : va_D A [(a_this, oX8 a_this_bytes a_this_keys a_this_reg a_this_card a_this_filled a_this_taken a_this_line a_this_one a_this_two o_this), (a_this_bytes, .inl (k_this_bytes, 2048, .inl r_this_bytes)), (a_this_keys, .inl (k_this_keys, 8, .inl r_this_keys)), (a_this_reg, .inl (k_this_reg, 16, .inl (upd r_this_reg (p2 / (16 : Int32)).toNatClampNeg (((r_this_reg (p2 / (16 : Int32)).toNatClampNeg).toUInt32 >>> ((p3 &&& (63 : Int32)).toUInt32 &&& Int32.toUInt32 31)).toInt32))))] := hD
              refine lv_iload_n hx hb dX8_doStored_104 rfl (lv_at hl 5 rfl) ?_
              refine lv_sipush (v := 138) hx hb dX8_doStored_105 (by decide) ?_
              refine lv_icmp_ne (tgt := 123) hx hb dX8_doStored_108 (by decide) (fun c_119 => ?_) (fun c_119 => ?_)
              · skip
                rw [if_neg c_119] at hF
                rw [if_neg c_119] at hs
                refine lv_goto (tgt := 323) hx hb dX8_doStored_123 (by decide) ?_
                exact hQ (o_this, r_this_bytes, (upd r_this_reg (p2 / (16 : Int32)).toNatClampNeg (((r_this_reg (p2 / (16 : Int32)).toNatClampNeg).toUInt32 >>> ((p3 &&& (63 : Int32)).toUInt32 &&& Int32.toUInt32 31)).toInt32))) _ _ _ _ dX8_doStored_323 hF.symm hP hD hS
              · skip
                rw [if_pos c_119] at hF
                rw [if_pos c_119] at hs
                refine lv_aload_n hx hb dX8_doStored_111 rfl (lv_at hl 4 rfl) ?_
                refine lv_aload_n hx hb dX8_doStored_112 rfl (lv_at hl 4 rfl) ?_
                refine gf_X8_16 (v := .ref a_this_reg) hx hb hown ht hK hP 0 rfl rfl dX8_doStored_113 ?_
                refine lv_iload hx hb dX8_doStored_116 (lv_at hl 3 rfl) ?_
                have hi_120 := hs
                refine va_iald hx hb hK hP 3 2 rfl rfl hi_120 dX8_doStored_118 ?_
                refine lv_i2l hx hb dX8_doStored_119 rfl ?_
                refine q_Vv (rest := []) (c_X8_sign l D a_this a_this_bytes a_this_keys a_this_reg a_this_card a_this_filled a_this_taken a_this_line a_this_one a_this_two o_this (((upd r_this_reg (p2 / (16 : Int32)).toNatClampNeg (((r_this_reg (p2 / (16 : Int32)).toNatClampNeg).toUInt32 >>> ((p3 &&& (63 : Int32)).toUInt32 &&& Int32.toUInt32 31)).toInt32)) (p2 / (16 : Int32)).toNatClampNeg).toInt64)) cv_X8_sign hx hb hml hown ht hN hK hA hP hD hS hl.1 (km_X8_120) ⟨Nat.le_of_ble_eq_true rfl, Nat.le_of_ble_eq_true rfl⟩ rfl rfl [0] (by decide) rfl [] rfl (fun _ => rfl) (ci := 8) rfl rfl rfl rfl rfl (Nat.le_of_ble_eq_true rfl) dX8_doStored_120 ⟨Nat.zero_le _, Nat.zero_le _⟩ (fun w_121 H locs hw hP hD hS => ?_)
                have hP : va_P D vwCl [(a_this, oX8 a_this_bytes a_this_keys a_this_reg a_this_card a_this_filled a_this_taken a_this_line a_this_one a_this_two w_121), (a_this_bytes, .inl (k_this_bytes, 2048, .inl r_this_bytes)), (a_this_keys, .inl (k_this_keys, 8, .inl r_this_keys)), (a_this_reg, .inl (k_this_reg, 16, .inl (upd r_this_reg (p2 / (16 : Int32)).toNatClampNeg (((r_this_reg (p2 / (16 : Int32)).toNatClampNeg).toUInt32 >>> ((p3 &&& (63 : Int32)).toUInt32 &&& Int32.toUInt32 31)).toInt32))))] H := hP
                have hD : va_D A [(a_this, oX8 a_this_bytes a_this_keys a_this_reg a_this_card a_this_filled a_this_taken a_this_line a_this_one a_this_two w_121), (a_this_bytes, .inl (k_this_bytes, 2048, .inl r_this_bytes)), (a_this_keys, .inl (k_this_keys, 8, .inl r_this_keys)), (a_this_reg, .inl (k_this_reg, 16, .inl (upd r_this_reg (p2 / (16 : Int32)).toNatClampNeg (((r_this_reg (p2 / (16 : Int32)).toNatClampNeg).toUInt32 >>> ((p3 &&& (63 : Int32)).toUInt32 &&& Int32.toUInt32 31)).toInt32))))] := hD
                rw [q_let_of hw] at hF
                refine lv_goto (tgt := 323) hx hb dX8_doStored_123 (by decide) ?_
                exact hQ (w_121, r_this_bytes, (upd r_this_reg (p2 / (16 : Int32)).toNatClampNeg (((r_this_reg (p2 / (16 : Int32)).toNatClampNeg).toUInt32 >>> ((p3 &&& (63 : Int32)).toUInt32 &&& Int32.toUInt32 31)).toInt32))) _ _ _ _ dX8_doStored_323 hF.symm hP hD hS
          · skip
            rw [if_neg c_112] at hF
            rw [if_neg c_112] at hs
            refine lv_iconst (v := 0) hx hb dX8_doStored_79 (by decide) ?_
            refine lv_goto (tgt := 103) hx hb dX8_doStored_80 (by decide) ?_
            obtain ⟨hi_122, hs⟩ := hs
            refine va_iast hx hb hK hP hD hS 3 2 rfl rfl hi_122 dX8_doStored_103 (fun H locs hP hD hS => ?_)
            have hP : va_P D vwCl [(a_this, oX8 a_this_bytes a_this_keys a_this_reg a_this_card a_this_filled a_this_taken a_this_line a_this_one a_this_two o_this), (a_this_bytes, .inl (k_this_bytes, 2048, .inl r_this_bytes)), (a_this_keys, .inl (k_this_keys, 8, .inl r_this_keys)), (a_this_reg, .inl (k_this_reg, 16, .inl (upd r_this_reg (p2 / (16 : Int32)).toNatClampNeg 0)))] H := hP
            have hD : va_D A [(a_this, oX8 a_this_bytes a_this_keys a_this_reg a_this_card a_this_filled a_this_taken a_this_line a_this_one a_this_two o_this), (a_this_bytes, .inl (k_this_bytes, 2048, .inl r_this_bytes)), (a_this_keys, .inl (k_this_keys, 8, .inl r_this_keys)), (a_this_reg, .inl (k_this_reg, 16, .inl (upd r_this_reg (p2 / (16 : Int32)).toNatClampNeg 0)))] := hD
            refine lv_iload_n hx hb dX8_doStored_104 rfl (lv_at hl 5 rfl) ?_
            refine lv_sipush (v := 138) hx hb dX8_doStored_105 (by decide) ?_
            refine lv_icmp_ne (tgt := 123) hx hb dX8_doStored_108 (by decide) (fun c_123 => ?_) (fun c_123 => ?_)
            · skip
              rw [if_neg c_123] at hF
              rw [if_neg c_123] at hs
              refine lv_goto (tgt := 323) hx hb dX8_doStored_123 (by decide) ?_
              exact hQ (o_this, r_this_bytes, (upd r_this_reg (p2 / (16 : Int32)).toNatClampNeg 0)) _ _ _ _ dX8_doStored_323 hF.symm hP hD hS
            · skip
              rw [if_pos c_123] at hF
              rw [if_pos c_123] at hs
              refine lv_aload_n hx hb dX8_doStored_111 rfl (lv_at hl 4 rfl) ?_
              refine lv_aload_n hx hb dX8_doStored_112 rfl (lv_at hl 4 rfl) ?_
              refine gf_X8_16 (v := .ref a_this_reg) hx hb hown ht hK hP 0 rfl rfl dX8_doStored_113 ?_
              refine lv_iload hx hb dX8_doStored_116 (lv_at hl 3 rfl) ?_
              have hi_124 := hs
              refine va_iald hx hb hK hP 3 2 rfl rfl hi_124 dX8_doStored_118 ?_
              refine lv_i2l hx hb dX8_doStored_119 rfl ?_
              refine q_Vv (rest := []) (c_X8_sign l D a_this a_this_bytes a_this_keys a_this_reg a_this_card a_this_filled a_this_taken a_this_line a_this_one a_this_two o_this (((upd r_this_reg (p2 / (16 : Int32)).toNatClampNeg 0) (p2 / (16 : Int32)).toNatClampNeg).toInt64)) cv_X8_sign hx hb hml hown ht hN hK hA hP hD hS hl.1 (km_X8_120) ⟨Nat.le_of_ble_eq_true rfl, Nat.le_of_ble_eq_true rfl⟩ rfl rfl [0] (by decide) rfl [] rfl (fun _ => rfl) (ci := 8) rfl rfl rfl rfl rfl (Nat.le_of_ble_eq_true rfl) dX8_doStored_120 ⟨Nat.zero_le _, Nat.zero_le _⟩ (fun w_125 H locs hw hP hD hS => ?_)
              have hP : va_P D vwCl [(a_this, oX8 a_this_bytes a_this_keys a_this_reg a_this_card a_this_filled a_this_taken a_this_line a_this_one a_this_two w_125), (a_this_bytes, .inl (k_this_bytes, 2048, .inl r_this_bytes)), (a_this_keys, .inl (k_this_keys, 8, .inl r_this_keys)), (a_this_reg, .inl (k_this_reg, 16, .inl (upd r_this_reg (p2 / (16 : Int32)).toNatClampNeg 0)))] H := hP
              have hD : va_D A [(a_this, oX8 a_this_bytes a_this_keys a_this_reg a_this_card a_this_filled a_this_taken a_this_line a_this_one a_this_two w_125), (a_this_bytes, .inl (k_this_bytes, 2048, .inl r_this_bytes)), (a_this_keys, .inl (k_this_keys, 8, .inl r_this_keys)), (a_this_reg, .inl (k_this_reg, 16, .inl (upd r_this_reg (p2 / (16 : Int32)).toNatClampNeg 0)))] := hD
              rw [q_let_of hw] at hF
              refine lv_goto (tgt := 323) hx hb dX8_doStored_123 (by decide) ?_
              exact hQ (w_125, r_this_bytes, (upd r_this_reg (p2 / (16 : Int32)).toNatClampNeg 0)) _ _ _ _ dX8_doStored_323 hF.symm hP hD hS
        · skip
          rw [if_pos c_111] at hF
          rw [if_pos c_111] at hs
          refine lv_iload hx hb dX8_doStored_64 (lv_at hl 1 rfl) ?_
          refine lv_iload hx hb dX8_doStored_66 (lv_at hl 0 rfl) ?_
          refine lv_ishr hx hb dX8_doStored_68 ?_
          refine lv_goto (tgt := 103) hx hb dX8_doStored_69 (by decide) ?_
          obtain ⟨hi_126, hs⟩ := hs
          refine va_iast hx hb hK hP hD hS 3 2 rfl rfl hi_126 dX8_doStored_103 (fun H locs hP hD hS => ?_)
          have hP : va_P D vwCl [(a_this, oX8 a_this_bytes a_this_keys a_this_reg a_this_card a_this_filled a_this_taken a_this_line a_this_one a_this_two o_this), (a_this_bytes, .inl (k_this_bytes, 2048, .inl r_this_bytes)), (a_this_keys, .inl (k_this_keys, 8, .inl r_this_keys)), (a_this_reg, .inl (k_this_reg, 16, .inl (upd r_this_reg (p2 / (16 : Int32)).toNatClampNeg ((r_this_reg (p2 / (16 : Int32)).toNatClampNeg) >>> ((p3 &&& (63 : Int32)) &&& 31)))))] H := hP
          have hD : va_D A [(a_this, oX8 a_this_bytes a_this_keys a_this_reg a_this_card a_this_filled a_this_taken a_this_line a_this_one a_this_two o_this), (a_this_bytes, .inl (k_this_bytes, 2048, .inl r_this_bytes)), (a_this_keys, .inl (k_this_keys, 8, .inl r_this_keys)), (a_this_reg, .inl (k_this_reg, 16, .inl (upd r_this_reg (p2 / (16 : Int32)).toNatClampNeg ((r_this_reg (p2 / (16 : Int32)).toNatClampNeg) >>> ((p3 &&& (63 : Int32)) &&& 31)))))] := hD
          refine lv_iload_n hx hb dX8_doStored_104 rfl (lv_at hl 5 rfl) ?_
          refine lv_sipush (v := 138) hx hb dX8_doStored_105 (by decide) ?_
          refine lv_icmp_ne (tgt := 123) hx hb dX8_doStored_108 (by decide) (fun c_127 => ?_) (fun c_127 => ?_)
          · skip
            rw [if_neg c_127] at hF
            rw [if_neg c_127] at hs
            refine lv_goto (tgt := 323) hx hb dX8_doStored_123 (by decide) ?_
            exact hQ (o_this, r_this_bytes, (upd r_this_reg (p2 / (16 : Int32)).toNatClampNeg ((r_this_reg (p2 / (16 : Int32)).toNatClampNeg) >>> ((p3 &&& (63 : Int32)) &&& 31)))) _ _ _ _ dX8_doStored_323 hF.symm hP hD hS
          · skip
            rw [if_pos c_127] at hF
            rw [if_pos c_127] at hs
            refine lv_aload_n hx hb dX8_doStored_111 rfl (lv_at hl 4 rfl) ?_
            refine lv_aload_n hx hb dX8_doStored_112 rfl (lv_at hl 4 rfl) ?_
            refine gf_X8_16 (v := .ref a_this_reg) hx hb hown ht hK hP 0 rfl rfl dX8_doStored_113 ?_
            refine lv_iload hx hb dX8_doStored_116 (lv_at hl 3 rfl) ?_
            have hi_128 := hs
            refine va_iald hx hb hK hP 3 2 rfl rfl hi_128 dX8_doStored_118 ?_
            refine lv_i2l hx hb dX8_doStored_119 rfl ?_
            refine q_Vv (rest := []) (c_X8_sign l D a_this a_this_bytes a_this_keys a_this_reg a_this_card a_this_filled a_this_taken a_this_line a_this_one a_this_two o_this (((upd r_this_reg (p2 / (16 : Int32)).toNatClampNeg ((r_this_reg (p2 / (16 : Int32)).toNatClampNeg) >>> ((p3 &&& (63 : Int32)) &&& 31))) (p2 / (16 : Int32)).toNatClampNeg).toInt64)) cv_X8_sign hx hb hml hown ht hN hK hA hP hD hS hl.1 (km_X8_120) ⟨Nat.le_of_ble_eq_true rfl, Nat.le_of_ble_eq_true rfl⟩ rfl rfl [0] (by decide) rfl [] rfl (fun _ => rfl) (ci := 8) rfl rfl rfl rfl rfl (Nat.le_of_ble_eq_true rfl) dX8_doStored_120 ⟨Nat.zero_le _, Nat.zero_le _⟩ (fun w_129 H locs hw hP hD hS => ?_)
            have hP : va_P D vwCl [(a_this, oX8 a_this_bytes a_this_keys a_this_reg a_this_card a_this_filled a_this_taken a_this_line a_this_one a_this_two w_129), (a_this_bytes, .inl (k_this_bytes, 2048, .inl r_this_bytes)), (a_this_keys, .inl (k_this_keys, 8, .inl r_this_keys)), (a_this_reg, .inl (k_this_reg, 16, .inl (upd r_this_reg (p2 / (16 : Int32)).toNatClampNeg ((r_this_reg (p2 / (16 : Int32)).toNatClampNeg) >>> ((p3 &&& (63 : Int32)) &&& 31)))))] H := hP
            have hD : va_D A [(a_this, oX8 a_this_bytes a_this_keys a_this_reg a_this_card a_this_filled a_this_taken a_this_line a_this_one a_this_two w_129), (a_this_bytes, .inl (k_this_bytes, 2048, .inl r_this_bytes)), (a_this_keys, .inl (k_this_keys, 8, .inl r_this_keys)), (a_this_reg, .inl (k_this_reg, 16, .inl (upd r_this_reg (p2 / (16 : Int32)).toNatClampNeg ((r_this_reg (p2 / (16 : Int32)).toNatClampNeg) >>> ((p3 &&& (63 : Int32)) &&& 31)))))] := hD
            rw [q_let_of hw] at hF
            refine lv_goto (tgt := 323) hx hb dX8_doStored_123 (by decide) ?_
            exact hQ (w_129, r_this_bytes, (upd r_this_reg (p2 / (16 : Int32)).toNatClampNeg ((r_this_reg (p2 / (16 : Int32)).toNatClampNeg) >>> ((p3 &&& (63 : Int32)) &&& 31)))) _ _ _ _ dX8_doStored_323 hF.symm hP hD hS
      · skip
        rw [if_neg c_110] at hF
        rw [if_neg c_110] at hs
        refine lv_bipush (v := 31) hx hb dX8_doStored_42 (by decide) ?_
        refine lv_goto (tgt := 49) hx hb dX8_doStored_44 (by decide) ?_
        refine lv_istore (lv' := [(7, .int 31), (6, .int (r_this_reg (p2 / (16 : Int32)).toNatClampNeg)), (5, .int (p3 &&& (63 : Int32))), (4, .int (p2 / (16 : Int32))), (0, .ref a_this), (1, .int p1), (2, .int p2), (3, .int p3)]) hx hb dX8_doStored_49 hl (by decide) rfl (fun ls hl => ?_)
        refine lv_aload_n hx hb dX8_doStored_51 rfl (lv_at hl 4 rfl) ?_
        refine gf_X8_16 (v := .ref a_this_reg) hx hb hown ht hK hP 0 rfl rfl dX8_doStored_52 ?_
        refine lv_iload hx hb dX8_doStored_55 (lv_at hl 3 rfl) ?_
        refine lv_iload_n hx hb dX8_doStored_57 rfl (lv_at hl 5 rfl) ?_
        refine lv_sipush (v := 138) hx hb dX8_doStored_58 (by decide) ?_
        refine lv_icmp_ne (tgt := 72) hx hb dX8_doStored_61 (by decide) (fun c_130 => ?_) (fun c_130 => ?_)
        · skip
          rw [if_neg c_130] at hF
          rw [if_neg c_130] at hs
          refine lv_iload hx hb dX8_doStored_72 (lv_at hl 2 rfl) ?_
          refine lv_bipush (v := 31) hx hb dX8_doStored_74 (by decide) ?_
          refine lv_icmp_le (tgt := 83) hx hb dX8_doStored_76 (by decide) (fun c_131 => ?_) (fun c_131 => ?_)
          · skip
            rw [if_pos c_131] at hF
            rw [if_pos c_131] at hs
            refine lv_iload_n hx hb dX8_doStored_83 rfl (lv_at hl 5 rfl) ?_
            refine lv_sipush (v := 136) hx hb dX8_doStored_84 (by decide) ?_
            refine lv_icmp_ne (tgt := 98) hx hb dX8_doStored_87 (by decide) (fun c_132 => ?_) (fun c_132 => ?_)
            · skip
              rw [if_neg c_132] at hF
              rw [if_neg c_132] at hs
              refine lv_iload hx hb dX8_doStored_98 (lv_at hl 1 rfl) ?_
              refine lv_iload hx hb dX8_doStored_100 (lv_at hl 2 rfl) ?_
              refine lv_ishl hx hb dX8_doStored_102 ?_
              obtain ⟨hi_133, hs⟩ := hs
              refine va_iast hx hb hK hP hD hS 3 2 rfl rfl hi_133 dX8_doStored_103 (fun H locs hP hD hS => ?_)
              have hP : va_P D vwCl [(a_this, oX8 a_this_bytes a_this_keys a_this_reg a_this_card a_this_filled a_this_taken a_this_line a_this_one a_this_two o_this), (a_this_bytes, .inl (k_this_bytes, 2048, .inl r_this_bytes)), (a_this_keys, .inl (k_this_keys, 8, .inl r_this_keys)), (a_this_reg, .inl (k_this_reg, 16, .inl (upd r_this_reg (p2 / (16 : Int32)).toNatClampNeg ((r_this_reg (p2 / (16 : Int32)).toNatClampNeg) <<< ((p3 &&& (63 : Int32)) &&& 31)))))] H := hP
              have hD : va_D A [(a_this, oX8 a_this_bytes a_this_keys a_this_reg a_this_card a_this_filled a_this_taken a_this_line a_this_one a_this_two o_this), (a_this_bytes, .inl (k_this_bytes, 2048, .inl r_this_bytes)), (a_this_keys, .inl (k_this_keys, 8, .inl r_this_keys)), (a_this_reg, .inl (k_this_reg, 16, .inl (upd r_this_reg (p2 / (16 : Int32)).toNatClampNeg ((r_this_reg (p2 / (16 : Int32)).toNatClampNeg) <<< ((p3 &&& (63 : Int32)) &&& 31)))))] := hD
              refine lv_iload_n hx hb dX8_doStored_104 rfl (lv_at hl 5 rfl) ?_
              refine lv_sipush (v := 138) hx hb dX8_doStored_105 (by decide) ?_
              refine lv_icmp_ne (tgt := 123) hx hb dX8_doStored_108 (by decide) (fun c_134 => ?_) (fun c_134 => ?_)
              · skip
                rw [if_neg c_134] at hF
                rw [if_neg c_134] at hs
                refine lv_goto (tgt := 323) hx hb dX8_doStored_123 (by decide) ?_
                exact hQ (o_this, r_this_bytes, (upd r_this_reg (p2 / (16 : Int32)).toNatClampNeg ((r_this_reg (p2 / (16 : Int32)).toNatClampNeg) <<< ((p3 &&& (63 : Int32)) &&& 31)))) _ _ _ _ dX8_doStored_323 hF.symm hP hD hS
              · skip
                rw [if_pos c_134] at hF
                rw [if_pos c_134] at hs
                refine lv_aload_n hx hb dX8_doStored_111 rfl (lv_at hl 4 rfl) ?_
                refine lv_aload_n hx hb dX8_doStored_112 rfl (lv_at hl 4 rfl) ?_
                refine gf_X8_16 (v := .ref a_this_reg) hx hb hown ht hK hP 0 rfl rfl dX8_doStored_113 ?_
                refine lv_iload hx hb dX8_doStored_116 (lv_at hl 3 rfl) ?_
                have hi_135 := hs
                refine va_iald hx hb hK hP 3 2 rfl rfl hi_135 dX8_doStored_118 ?_
                refine lv_i2l hx hb dX8_doStored_119 rfl ?_
                refine q_Vv (rest := []) (c_X8_sign l D a_this a_this_bytes a_this_keys a_this_reg a_this_card a_this_filled a_this_taken a_this_line a_this_one a_this_two o_this (((upd r_this_reg (p2 / (16 : Int32)).toNatClampNeg ((r_this_reg (p2 / (16 : Int32)).toNatClampNeg) <<< ((p3 &&& (63 : Int32)) &&& 31))) (p2 / (16 : Int32)).toNatClampNeg).toInt64)) cv_X8_sign hx hb hml hown ht hN hK hA hP hD hS hl.1 (km_X8_120) ⟨Nat.le_of_ble_eq_true rfl, Nat.le_of_ble_eq_true rfl⟩ rfl rfl [0] (by decide) rfl [] rfl (fun _ => rfl) (ci := 8) rfl rfl rfl rfl rfl (Nat.le_of_ble_eq_true rfl) dX8_doStored_120 ⟨Nat.zero_le _, Nat.zero_le _⟩ (fun w_136 H locs hw hP hD hS => ?_)
                have hP : va_P D vwCl [(a_this, oX8 a_this_bytes a_this_keys a_this_reg a_this_card a_this_filled a_this_taken a_this_line a_this_one a_this_two w_136), (a_this_bytes, .inl (k_this_bytes, 2048, .inl r_this_bytes)), (a_this_keys, .inl (k_this_keys, 8, .inl r_this_keys)), (a_this_reg, .inl (k_this_reg, 16, .inl (upd r_this_reg (p2 / (16 : Int32)).toNatClampNeg ((r_this_reg (p2 / (16 : Int32)).toNatClampNeg) <<< ((p3 &&& (63 : Int32)) &&& 31)))))] H := hP
                have hD : va_D A [(a_this, oX8 a_this_bytes a_this_keys a_this_reg a_this_card a_this_filled a_this_taken a_this_line a_this_one a_this_two w_136), (a_this_bytes, .inl (k_this_bytes, 2048, .inl r_this_bytes)), (a_this_keys, .inl (k_this_keys, 8, .inl r_this_keys)), (a_this_reg, .inl (k_this_reg, 16, .inl (upd r_this_reg (p2 / (16 : Int32)).toNatClampNeg ((r_this_reg (p2 / (16 : Int32)).toNatClampNeg) <<< ((p3 &&& (63 : Int32)) &&& 31)))))] := hD
                rw [q_let_of hw] at hF
                refine lv_goto (tgt := 323) hx hb dX8_doStored_123 (by decide) ?_
                exact hQ (w_136, r_this_bytes, (upd r_this_reg (p2 / (16 : Int32)).toNatClampNeg ((r_this_reg (p2 / (16 : Int32)).toNatClampNeg) <<< ((p3 &&& (63 : Int32)) &&& 31)))) _ _ _ _ dX8_doStored_323 hF.symm hP hD hS
            · skip
              rw [if_pos c_132] at hF
              rw [if_pos c_132] at hs
              refine lv_iload hx hb dX8_doStored_90 (lv_at hl 1 rfl) ?_
              refine lv_iload hx hb dX8_doStored_92 (lv_at hl 2 rfl) ?_
              refine lv_iushr hx hb dX8_doStored_94 rfl ?_
              refine lv_goto (tgt := 103) hx hb dX8_doStored_95 (by decide) ?_
              obtain ⟨hi_137, hs⟩ := hs
              refine va_iast hx hb hK hP hD hS 3 2 rfl rfl hi_137 dX8_doStored_103 (fun H locs hP hD hS => ?_)
              have hP : va_P D vwCl [(a_this, oX8 a_this_bytes a_this_keys a_this_reg a_this_card a_this_filled a_this_taken a_this_line a_this_one a_this_two o_this), (a_this_bytes, .inl (k_this_bytes, 2048, .inl r_this_bytes)), (a_this_keys, .inl (k_this_keys, 8, .inl r_this_keys)), (a_this_reg, .inl (k_this_reg, 16, .inl (upd r_this_reg (p2 / (16 : Int32)).toNatClampNeg (((r_this_reg (p2 / (16 : Int32)).toNatClampNeg).toUInt32 >>> ((p3 &&& (63 : Int32)).toUInt32 &&& Int32.toUInt32 31)).toInt32))))] H := hP
              have hD : va_D A [(a_this, oX8 a_this_bytes a_this_keys a_this_reg a_this_card a_this_filled a_this_taken a_this_line a_this_one a_this_two o_this), (a_this_bytes, .inl (k_this_bytes, 2048, .inl r_this_bytes)), (a_this_keys, .inl (k_this_keys, 8, .inl r_this_keys)), (a_this_reg, .inl (k_this_reg, 16, .inl (upd r_this_reg (p2 / (16 : Int32)).toNatClampNeg (((r_this_reg (p2 / (16 : Int32)).toNatClampNeg).toUInt32 >>> ((p3 &&& (63 : Int32)).toUInt32 &&& Int32.toUInt32 31)).toInt32))))] := hD
              refine lv_iload_n hx hb dX8_doStored_104 rfl (lv_at hl 5 rfl) ?_
              refine lv_sipush (v := 138) hx hb dX8_doStored_105 (by decide) ?_
              refine lv_icmp_ne (tgt := 123) hx hb dX8_doStored_108 (by decide) (fun c_138 => ?_) (fun c_138 => ?_)
              · skip
                rw [if_neg c_138] at hF
                rw [if_neg c_138] at hs
                refine lv_goto (tgt := 323) hx hb dX8_doStored_123 (by decide) ?_
                exact hQ (o_this, r_this_bytes, (upd r_this_reg (p2 / (16 : Int32)).toNatClampNeg (((r_this_reg (p2 / (16 : Int32)).toNatClampNeg).toUInt32 >>> ((p3 &&& (63 : Int32)).toUInt32 &&& Int32.toUInt32 31)).toInt32))) _ _ _ _ dX8_doStored_323 hF.symm hP hD hS
              · skip
                rw [if_pos c_138] at hF
                rw [if_pos c_138] at hs
                refine lv_aload_n hx hb dX8_doStored_111 rfl (lv_at hl 4 rfl) ?_
                refine lv_aload_n hx hb dX8_doStored_112 rfl (lv_at hl 4 rfl) ?_
                refine gf_X8_16 (v := .ref a_this_reg) hx hb hown ht hK hP 0 rfl rfl dX8_doStored_113 ?_
                refine lv_iload hx hb dX8_doStored_116 (lv_at hl 3 rfl) ?_
                have hi_139 := hs
                refine va_iald hx hb hK hP 3 2 rfl rfl hi_139 dX8_doStored_118 ?_
                refine lv_i2l hx hb dX8_doStored_119 rfl ?_
                refine q_Vv (rest := []) (c_X8_sign l D a_this a_this_bytes a_this_keys a_this_reg a_this_card a_this_filled a_this_taken a_this_line a_this_one a_this_two o_this (((upd r_this_reg (p2 / (16 : Int32)).toNatClampNeg (((r_this_reg (p2 / (16 : Int32)).toNatClampNeg).toUInt32 >>> ((p3 &&& (63 : Int32)).toUInt32 &&& Int32.toUInt32 31)).toInt32)) (p2 / (16 : Int32)).toNatClampNeg).toInt64)) cv_X8_sign hx hb hml hown ht hN hK hA hP hD hS hl.1 (km_X8_120) ⟨Nat.le_of_ble_eq_true rfl, Nat.le_of_ble_eq_true rfl⟩ rfl rfl [0] (by decide) rfl [] rfl (fun _ => rfl) (ci := 8) rfl rfl rfl rfl rfl (Nat.le_of_ble_eq_true rfl) dX8_doStored_120 ⟨Nat.zero_le _, Nat.zero_le _⟩ (fun w_140 H locs hw hP hD hS => ?_)
                have hP : va_P D vwCl [(a_this, oX8 a_this_bytes a_this_keys a_this_reg a_this_card a_this_filled a_this_taken a_this_line a_this_one a_this_two w_140), (a_this_bytes, .inl (k_this_bytes, 2048, .inl r_this_bytes)), (a_this_keys, .inl (k_this_keys, 8, .inl r_this_keys)), (a_this_reg, .inl (k_this_reg, 16, .inl (upd r_this_reg (p2 / (16 : Int32)).toNatClampNeg (((r_this_reg (p2 / (16 : Int32)).toNatClampNeg).toUInt32 >>> ((p3 &&& (63 : Int32)).toUInt32 &&& Int32.toUInt32 31)).toInt32))))] H := hP
                have hD : va_D A [(a_this, oX8 a_this_bytes a_this_keys a_this_reg a_this_card a_this_filled a_this_taken a_this_line a_this_one a_this_two w_140), (a_this_bytes, .inl (k_this_bytes, 2048, .inl r_this_bytes)), (a_this_keys, .inl (k_this_keys, 8, .inl r_this_keys)), (a_this_reg, .inl (k_this_reg, 16, .inl (upd r_this_reg (p2 / (16 : Int32)).toNatClampNeg (((r_this_reg (p2 / (16 : Int32)).toNatClampNeg).toUInt32 >>> ((p3 &&& (63 : Int32)).toUInt32 &&& Int32.toUInt32 31)).toInt32))))] := hD
                rw [q_let_of hw] at hF
                refine lv_goto (tgt := 323) hx hb dX8_doStored_123 (by decide) ?_
                exact hQ (w_140, r_this_bytes, (upd r_this_reg (p2 / (16 : Int32)).toNatClampNeg (((r_this_reg (p2 / (16 : Int32)).toNatClampNeg).toUInt32 >>> ((p3 &&& (63 : Int32)).toUInt32 &&& Int32.toUInt32 31)).toInt32))) _ _ _ _ dX8_doStored_323 hF.symm hP hD hS
          · skip
            rw [if_neg c_131] at hF
            rw [if_neg c_131] at hs
            refine lv_iconst (v := 0) hx hb dX8_doStored_79 (by decide) ?_
            refine lv_goto (tgt := 103) hx hb dX8_doStored_80 (by decide) ?_
            obtain ⟨hi_141, hs⟩ := hs
            refine va_iast hx hb hK hP hD hS 3 2 rfl rfl hi_141 dX8_doStored_103 (fun H locs hP hD hS => ?_)
            have hP : va_P D vwCl [(a_this, oX8 a_this_bytes a_this_keys a_this_reg a_this_card a_this_filled a_this_taken a_this_line a_this_one a_this_two o_this), (a_this_bytes, .inl (k_this_bytes, 2048, .inl r_this_bytes)), (a_this_keys, .inl (k_this_keys, 8, .inl r_this_keys)), (a_this_reg, .inl (k_this_reg, 16, .inl (upd r_this_reg (p2 / (16 : Int32)).toNatClampNeg 0)))] H := hP
            have hD : va_D A [(a_this, oX8 a_this_bytes a_this_keys a_this_reg a_this_card a_this_filled a_this_taken a_this_line a_this_one a_this_two o_this), (a_this_bytes, .inl (k_this_bytes, 2048, .inl r_this_bytes)), (a_this_keys, .inl (k_this_keys, 8, .inl r_this_keys)), (a_this_reg, .inl (k_this_reg, 16, .inl (upd r_this_reg (p2 / (16 : Int32)).toNatClampNeg 0)))] := hD
            refine lv_iload_n hx hb dX8_doStored_104 rfl (lv_at hl 5 rfl) ?_
            refine lv_sipush (v := 138) hx hb dX8_doStored_105 (by decide) ?_
            refine lv_icmp_ne (tgt := 123) hx hb dX8_doStored_108 (by decide) (fun c_142 => ?_) (fun c_142 => ?_)
            · skip
              rw [if_neg c_142] at hF
              rw [if_neg c_142] at hs
              refine lv_goto (tgt := 323) hx hb dX8_doStored_123 (by decide) ?_
              exact hQ (o_this, r_this_bytes, (upd r_this_reg (p2 / (16 : Int32)).toNatClampNeg 0)) _ _ _ _ dX8_doStored_323 hF.symm hP hD hS
            · skip
              rw [if_pos c_142] at hF
              rw [if_pos c_142] at hs
              refine lv_aload_n hx hb dX8_doStored_111 rfl (lv_at hl 4 rfl) ?_
              refine lv_aload_n hx hb dX8_doStored_112 rfl (lv_at hl 4 rfl) ?_
              refine gf_X8_16 (v := .ref a_this_reg) hx hb hown ht hK hP 0 rfl rfl dX8_doStored_113 ?_
              refine lv_iload hx hb dX8_doStored_116 (lv_at hl 3 rfl) ?_
              have hi_143 := hs
              refine va_iald hx hb hK hP 3 2 rfl rfl hi_143 dX8_doStored_118 ?_
              refine lv_i2l hx hb dX8_doStored_119 rfl ?_
              refine q_Vv (rest := []) (c_X8_sign l D a_this a_this_bytes a_this_keys a_this_reg a_this_card a_this_filled a_this_taken a_this_line a_this_one a_this_two o_this (((upd r_this_reg (p2 / (16 : Int32)).toNatClampNeg 0) (p2 / (16 : Int32)).toNatClampNeg).toInt64)) cv_X8_sign hx hb hml hown ht hN hK hA hP hD hS hl.1 (km_X8_120) ⟨Nat.le_of_ble_eq_true rfl, Nat.le_of_ble_eq_true rfl⟩ rfl rfl [0] (by decide) rfl [] rfl (fun _ => rfl) (ci := 8) rfl rfl rfl rfl rfl (Nat.le_of_ble_eq_true rfl) dX8_doStored_120 ⟨Nat.zero_le _, Nat.zero_le _⟩ (fun w_144 H locs hw hP hD hS => ?_)
              have hP : va_P D vwCl [(a_this, oX8 a_this_bytes a_this_keys a_this_reg a_this_card a_this_filled a_this_taken a_this_line a_this_one a_this_two w_144), (a_this_bytes, .inl (k_this_bytes, 2048, .inl r_this_bytes)), (a_this_keys, .inl (k_this_keys, 8, .inl r_this_keys)), (a_this_reg, .inl (k_this_reg, 16, .inl (upd r_this_reg (p2 / (16 : Int32)).toNatClampNeg 0)))] H := hP
              have hD : va_D A [(a_this, oX8 a_this_bytes a_this_keys a_this_reg a_this_card a_this_filled a_this_taken a_this_line a_this_one a_this_two w_144), (a_this_bytes, .inl (k_this_bytes, 2048, .inl r_this_bytes)), (a_this_keys, .inl (k_this_keys, 8, .inl r_this_keys)), (a_this_reg, .inl (k_this_reg, 16, .inl (upd r_this_reg (p2 / (16 : Int32)).toNatClampNeg 0)))] := hD
              rw [q_let_of hw] at hF
              refine lv_goto (tgt := 323) hx hb dX8_doStored_123 (by decide) ?_
              exact hQ (w_144, r_this_bytes, (upd r_this_reg (p2 / (16 : Int32)).toNatClampNeg 0)) _ _ _ _ dX8_doStored_323 hF.symm hP hD hS
        · skip
          rw [if_pos c_130] at hF
          rw [if_pos c_130] at hs
          refine lv_iload hx hb dX8_doStored_64 (lv_at hl 1 rfl) ?_
          refine lv_iload hx hb dX8_doStored_66 (lv_at hl 0 rfl) ?_
          refine lv_ishr hx hb dX8_doStored_68 ?_
          refine lv_goto (tgt := 103) hx hb dX8_doStored_69 (by decide) ?_
          obtain ⟨hi_145, hs⟩ := hs
          refine va_iast hx hb hK hP hD hS 3 2 rfl rfl hi_145 dX8_doStored_103 (fun H locs hP hD hS => ?_)
          have hP : va_P D vwCl [(a_this, oX8 a_this_bytes a_this_keys a_this_reg a_this_card a_this_filled a_this_taken a_this_line a_this_one a_this_two o_this), (a_this_bytes, .inl (k_this_bytes, 2048, .inl r_this_bytes)), (a_this_keys, .inl (k_this_keys, 8, .inl r_this_keys)), (a_this_reg, .inl (k_this_reg, 16, .inl (upd r_this_reg (p2 / (16 : Int32)).toNatClampNeg ((r_this_reg (p2 / (16 : Int32)).toNatClampNeg) >>> ((31 : Int32) &&& 31)))))] H := hP
          have hD : va_D A [(a_this, oX8 a_this_bytes a_this_keys a_this_reg a_this_card a_this_filled a_this_taken a_this_line a_this_one a_this_two o_this), (a_this_bytes, .inl (k_this_bytes, 2048, .inl r_this_bytes)), (a_this_keys, .inl (k_this_keys, 8, .inl r_this_keys)), (a_this_reg, .inl (k_this_reg, 16, .inl (upd r_this_reg (p2 / (16 : Int32)).toNatClampNeg ((r_this_reg (p2 / (16 : Int32)).toNatClampNeg) >>> ((31 : Int32) &&& 31)))))] := hD
          refine lv_iload_n hx hb dX8_doStored_104 rfl (lv_at hl 5 rfl) ?_
          refine lv_sipush (v := 138) hx hb dX8_doStored_105 (by decide) ?_
          refine lv_icmp_ne (tgt := 123) hx hb dX8_doStored_108 (by decide) (fun c_146 => ?_) (fun c_146 => ?_)
          · skip
            rw [if_neg c_146] at hF
            rw [if_neg c_146] at hs
            refine lv_goto (tgt := 323) hx hb dX8_doStored_123 (by decide) ?_
            exact hQ (o_this, r_this_bytes, (upd r_this_reg (p2 / (16 : Int32)).toNatClampNeg ((r_this_reg (p2 / (16 : Int32)).toNatClampNeg) >>> ((31 : Int32) &&& 31)))) _ _ _ _ dX8_doStored_323 hF.symm hP hD hS
          · skip
            rw [if_pos c_146] at hF
            rw [if_pos c_146] at hs
            refine lv_aload_n hx hb dX8_doStored_111 rfl (lv_at hl 4 rfl) ?_
            refine lv_aload_n hx hb dX8_doStored_112 rfl (lv_at hl 4 rfl) ?_
            refine gf_X8_16 (v := .ref a_this_reg) hx hb hown ht hK hP 0 rfl rfl dX8_doStored_113 ?_
            refine lv_iload hx hb dX8_doStored_116 (lv_at hl 3 rfl) ?_
            have hi_147 := hs
            refine va_iald hx hb hK hP 3 2 rfl rfl hi_147 dX8_doStored_118 ?_
            refine lv_i2l hx hb dX8_doStored_119 rfl ?_
            refine q_Vv (rest := []) (c_X8_sign l D a_this a_this_bytes a_this_keys a_this_reg a_this_card a_this_filled a_this_taken a_this_line a_this_one a_this_two o_this (((upd r_this_reg (p2 / (16 : Int32)).toNatClampNeg ((r_this_reg (p2 / (16 : Int32)).toNatClampNeg) >>> ((31 : Int32) &&& 31))) (p2 / (16 : Int32)).toNatClampNeg).toInt64)) cv_X8_sign hx hb hml hown ht hN hK hA hP hD hS hl.1 (km_X8_120) ⟨Nat.le_of_ble_eq_true rfl, Nat.le_of_ble_eq_true rfl⟩ rfl rfl [0] (by decide) rfl [] rfl (fun _ => rfl) (ci := 8) rfl rfl rfl rfl rfl (Nat.le_of_ble_eq_true rfl) dX8_doStored_120 ⟨Nat.zero_le _, Nat.zero_le _⟩ (fun w_148 H locs hw hP hD hS => ?_)
            have hP : va_P D vwCl [(a_this, oX8 a_this_bytes a_this_keys a_this_reg a_this_card a_this_filled a_this_taken a_this_line a_this_one a_this_two w_148), (a_this_bytes, .inl (k_this_bytes, 2048, .inl r_this_bytes)), (a_this_keys, .inl (k_this_keys, 8, .inl r_this_keys)), (a_this_reg, .inl (k_this_reg, 16, .inl (upd r_this_reg (p2 / (16 : Int32)).toNatClampNeg ((r_this_reg (p2 / (16 : Int32)).toNatClampNeg) >>> ((31 : Int32) &&& 31)))))] H := hP
            have hD : va_D A [(a_this, oX8 a_this_bytes a_this_keys a_this_reg a_this_card a_this_filled a_this_taken a_this_line a_this_one a_this_two w_148), (a_this_bytes, .inl (k_this_bytes, 2048, .inl r_this_bytes)), (a_this_keys, .inl (k_this_keys, 8, .inl r_this_keys)), (a_this_reg, .inl (k_this_reg, 16, .inl (upd r_this_reg (p2 / (16 : Int32)).toNatClampNeg ((r_this_reg (p2 / (16 : Int32)).toNatClampNeg) >>> ((31 : Int32) &&& 31)))))] := hD
            rw [q_let_of hw] at hF
            refine lv_goto (tgt := 323) hx hb dX8_doStored_123 (by decide) ?_
            exact hQ (w_148, r_this_bytes, (upd r_this_reg (p2 / (16 : Int32)).toNatClampNeg ((r_this_reg (p2 / (16 : Int32)).toNatClampNeg) >>> ((31 : Int32) &&& 31)))) _ _ _ _ dX8_doStored_323 hF.symm hP hD hS
theorem cv_X8_doStored : qV yX8_doStored cX8_doStored 8 none 3 := ⟨kc_X8_doStored, kt_X8_doStored, ks_X8_doStored, kn_X8, by decide, by decide +kernel⟩
