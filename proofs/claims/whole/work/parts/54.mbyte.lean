/-! one byte moved: the class's side, case by case -/
theorem goOn_eq (works waits : Bool) (dev key place : Int32) (has dch jmp : Bool) (addr flg cnt un ck made front wait rlen tkn : Int32) :
    ((dev = 1 ∧ ¬ tkn < rlen) → f_X0_goOn (works, waits, dev, key, place, has, dch, jmp, addr, flg, cnt, un, ck) (made, front, wait, rlen, tkn) = f_X0_finishCommand (works, waits, dev, key, place, has, dch, jmp, addr, flg, cnt, un, ck) (made, front, wait, rlen, tkn)) ∧
    (¬ (dev = 1 ∧ ¬ tkn < rlen) → cnt = 0 → ¬ flg &&& 128 = 0 → f_X0_goOn (works, waits, dev, key, place, has, dch, jmp, addr, flg, cnt, un, ck) (made, front, wait, rlen, tkn) = (works, waits, dev, key, place, false, true, jmp, addr, flg, cnt, un, ck)) ∧
    (¬ (dev = 1 ∧ ¬ tkn < rlen) → cnt = 0 → flg &&& 128 = 0 → f_X0_goOn (works, waits, dev, key, place, has, dch, jmp, addr, flg, cnt, un, ck) (made, front, wait, rlen, tkn) = f_X0_finishCommand (works, waits, dev, key, place, has, dch, jmp, addr, flg, cnt, un, ck) (made, front, wait, rlen, tkn)) ∧
    (¬ (dev = 1 ∧ ¬ tkn < rlen) → ¬ cnt = 0 → f_X0_goOn (works, waits, dev, key, place, has, dch, jmp, addr, flg, cnt, un, ck) (made, front, wait, rlen, tkn) = (works, waits, dev, key, place, has, dch, jmp, addr, flg, cnt, un, ck)) := by
  by_cases h1 : dev = 1 <;> by_cases h2 : tkn < rlen <;> by_cases h3 : cnt = 0 <;> by_cases h4 : flg &&& 128 = 0 <;>
    simp [f_X0_goOn, f_X0_isReading, f_X4_isAtEnd, f_X0_flagged, q_let, h1, h2, h3, h4]
theorem mv_out (works waits : Bool) (dev key place : Int32) (has dch jmp : Bool) (addr flg cnt un ck made front wait rlen tkn : Int32) (L : Int32 × Int32) (line rc B K : rw_) (h : ¬ f_X6_holds addr 1 = true) :
    f_X0_moveByte (works, waits, dev, key, place, has, dch, jmp, addr, flg, cnt, un, ck) L line (made, front, wait, rlen, tkn) rc B K = ((false, true, dev, key, place, has, dch, jmp, addr, flg, cnt, 0, 32), L, line, (made, front, wait, rlen, tkn), B) := by
  by_cases h1 : dev = 1 <;> by_cases h4 : flg &&& 16 = 0 <;>
    simp [f_X0_moveByte, f_X0_isReading, f_X0_flagged, f_X0_end, q_let, h1, h4, h]
theorem mv_key (works waits : Bool) (key place : Int32) (has dch jmp : Bool) (addr flg cnt un ck made front wait rlen tkn : Int32) (L : Int32 × Int32) (line rc B K : rw_) (h : f_X6_holds addr 1 = true) (h4 : flg &&& 16 = 0) (h5 : ¬ f_X6_isOpen K addr 1 key = true) :
    f_X0_moveByte (works, waits, 1, key, place, has, dch, jmp, addr, flg, cnt, un, ck) L line (made, front, wait, rlen, tkn) rc B K = ((false, true, 1, key, place, has, dch, jmp, addr, flg, cnt, 0, 16), L, line, (made, front, wait, rlen, tkn), B) := by
  simp [f_X0_moveByte, f_X0_isReading, f_X0_flagged, f_X0_end, q_let, h4, h, h5]
theorem mv_keep (works waits : Bool) (key place : Int32) (has dch jmp : Bool) (addr flg cnt un ck made front wait rlen tkn : Int32) (L : Int32 × Int32) (line rc B K : rw_) (h : f_X6_holds addr 1 = true) (h4 : flg &&& 16 = 0) (h5 : f_X6_isOpen K addr 1 key = true) (h6 : ¬ tkn < 0) (h7 : ¬ (16 : Int32) ≤ tkn) :
    f_X0_moveByte (works, waits, 1, key, place, has, dch, jmp, addr, flg, cnt, un, ck) L line (made, front, wait, rlen, tkn) rc B K = (f_X0_goOn (works, waits, 1, key, place, has, dch, jmp, addr + (1 : Int32), flg, cnt - (1 : Int32), un, ck) (made, front, wait, rlen, tkn + (1 : Int32)), L, line, (made, front, wait, rlen, tkn + (1 : Int32)), f_X6_putByte B addr (rc tkn.toNatClampNeg &&& (255 : Int32))) := by
  simp [f_X0_moveByte, f_X0_isReading, f_X0_flagged, f_X0_end, f_X4_nextByte, q_let, h4, h, h5, h6, h7]
theorem mv_skip (works waits : Bool) (key place : Int32) (has dch jmp : Bool) (addr flg cnt un ck made front wait rlen tkn : Int32) (L : Int32 × Int32) (line rc B K : rw_) (h : f_X6_holds addr 1 = true) (h4 : ¬ flg &&& 16 = 0) :
    f_X0_moveByte (works, waits, 1, key, place, has, dch, jmp, addr, flg, cnt, un, ck) L line (made, front, wait, rlen, tkn) rc B K = (f_X0_goOn (works, waits, 1, key, place, has, dch, jmp, addr + (1 : Int32), flg, cnt - (1 : Int32), un, ck) (made, front, wait, rlen, tkn + (1 : Int32)), L, line, (made, front, wait, rlen, tkn + (1 : Int32)), B) := by
  simp [f_X0_moveByte, f_X0_isReading, f_X0_flagged, f_X0_end, f_X4_skipByte, q_let, h4, h]
theorem mv_print (works waits : Bool) (key place : Int32) (has dch jmp : Bool) (addr flg cnt un ck made front wait rlen tkn : Int32) (L : Int32 × Int32) (line rc B K : rw_) (h : f_X6_holds addr 1 = true) :
    f_X0_moveByte (works, waits, 2, key, place, has, dch, jmp, addr, flg, cnt, un, ck) L line (made, front, wait, rlen, tkn) rc B K = (f_X0_goOn (works, waits, 2, key, place, has, dch, jmp, addr + (1 : Int32), flg, cnt - (1 : Int32), un, ck) (made, front, wait, rlen, tkn), (f_X2_print L line (f_X6_byteAt B addr)).1, (f_X2_print L line (f_X6_byteAt B addr)).2, (made, front, wait, rlen, tkn), B) := by
  have h2 : ¬ (2 : Int32) = 1 := by decide
  by_cases h4 : flg &&& 16 = 0 <;>
    simp [f_X0_moveByte, f_X0_isReading, f_X0_flagged, f_X0_end, q_let, h4, h, h2]
