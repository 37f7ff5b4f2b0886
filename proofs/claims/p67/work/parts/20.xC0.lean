/-! functions and contracts, by program: isWithin, truncateText, hasRoomFor, put, appendText, kindOf, readNext, readFirst, begin, isWord, fail, readWord, value, isNumber, readSemicolon, readLogs, readRow, readBunks, readBlankets, readForecast, readHiker, readHikers, sumOfCoins, temperatureInside, hasBlanket, hasBunk, warmthOfBunk, isCold, measure, open, readSetup, copyFrom, copyFrom -/
def x8_isWithin (b0 : Int32) (b1 : Int32) (b2 : Int32) (g : AH) : Option (Int32 × AH) :=
  if b0 < b1 then
  some (0, g)
  else
  if b2 < b0 then
  some (0, g)
  else
  some (1, g)
def x8_truncateText (p : Nat) (b0 : Int32) (g : AH) : Option ((Int32 ⊕ String) × AH) :=
  gb (getR 8 g p 6) fun x1 => gb (getR 0 g x1 0) fun x3 => gb (getI 7 g x3 1) fun x5 => cb (x8_isWithin b0 0 x5 g) fun r7 g8 => if r7 = 0 then
  some (.inr "java/lang/IllegalArgumentException", hcut g8)
  else
  gb (getR 8 g8 p 6) fun x11 => gb (getR 0 g8 x11 0) fun x13 => gb (putV 7 g8 x13 1 (.int b0)) fun g15 => some (.inl b0, g15)
def x7_hasRoomFor (p : Nat) (b0 : Int32) (g : AH) : Option (Int32 × AH) :=
  gb (getI 7 g p 1) fun x1 => if 500 < (x1 + b0) then
  some (0, g)
  else
  some (1, g)
def x7_put (p : Nat) (b0 : Int32) (g : AH) : Option (Unit × AH) :=
  gb (isO 7 g p) fun _ => cb (x7_hasRoomFor p 1 g) fun r1 g2 => if r1 = 0 then
  some ((), g2)
  else
  gb (getR 7 g2 p 0) fun x7 => gb (getI 7 g2 p 1) fun x9 => gb (astI 0 g2 x7 x9 (b0 &&& 255)) fun g11 => gb (getI 7 g11 p 1) fun x13 => gb (putV 7 g11 p 1 (.int (x13 + 1))) fun g15 => some ((), g15)
def x8_appendText (p : Nat) (b0 : Int32) (g : AH) : Option ((Int32 ⊕ String) × AH) :=
  gb (getR 8 g p 6) fun x1 => gb (getR 0 g x1 0) fun x3 => gb (isO 7 g x3) fun _ => cb (x7_hasRoomFor x3 4 g) fun r5 g6 => if r5 = 0 then
  some (.inr "java/lang/IllegalStateException", hcut g6)
  else
  gb (getR 8 g6 p 6) fun x11 => gb (getR 0 g6 x11 0) fun x13 => gb (isO 7 g6 x13) fun _ => cb (x7_put x13 (ushr b0 24) g6) fun r15 g16 => gb (getR 8 g16 p 6) fun x20 => gb (getR 0 g16 x20 0) fun x22 => gb (isO 7 g16 x22) fun _ => cb (x7_put x22 (ushr b0 16) g16) fun r24 g25 => gb (getR 8 g25 p 6) fun x29 => gb (getR 0 g25 x29 0) fun x31 => gb (isO 7 g25 x31) fun _ => cb (x7_put x31 (ushr b0 8) g25) fun r33 g34 => gb (getR 8 g34 p 6) fun x38 => gb (getR 0 g34 x38 0) fun x40 => gb (isO 7 g34 x40) fun _ => cb (x7_put x40 b0 g34) fun r42 g43 => gb (getR 8 g43 p 6) fun x47 => gb (getR 0 g43 x47 0) fun x49 => gb (getI 7 g43 x49 1) fun x51 => some (.inl x51, g43)
def x7_kindOf_j48  (g : AH) : Option (Int32 × AH) :=
  some (4, g)
def x7_kindOf_j28 (a0 : Int32) (g : AH) : Option (Int32 × AH) :=
  if a0 = 59 then
  some (3, g)
  else
  if a0 = 32 then
  x7_kindOf_j48  g
  else
  if a0 = 10 then
  x7_kindOf_j48  g
  else
  some (5, g)
def x7_kindOf_j14 (a0 : Int32) (g : AH) : Option (Int32 × AH) :=
  if a0 < 48 then
  x7_kindOf_j28 a0 g
  else
  if 57 < a0 then
  x7_kindOf_j28 a0 g
  else
  some (2, g)
def x7_kindOf (b0 : Int32) (g : AH) : Option (Int32 × AH) :=
  if b0 < 97 then
  x7_kindOf_j14 b0 g
  else
  if 122 < b0 then
  x7_kindOf_j14 b0 g
  else
  some (1, g)
def x7_readNext_l8 (a0 : Nat) (s0 : Unit) (g : AH) : Option (((Unit) ⊕ (Unit)) × AH) :=
  gb (getI 7 g a0 3) fun x1 => gb (getI 7 g a0 1) fun x3 => if x3 ≤ x1 then
  some (.inr (), g)
  else
  gb (getR 7 g a0 0) fun x6 => gb (getI 7 g a0 3) fun x8 => gb (aldI 0 g x6 x8) fun x10 => cb (x7_kindOf x10 g) fun r12 g13 => if r12 = 4 then
  gb (getI 7 g13 a0 3) fun x16 => gb (putV 7 g13 a0 3 (.int (x16 + 1))) fun g18 => some (.inl (), g18)
  else
  some (.inr (), g13)
def x7_readNext_l123 (a0 : Nat) (s0 : Unit) (g : AH) : Option (((Unit) ⊕ (Unit)) × AH) :=
  gb (getI 7 g a0 4) fun x1 => gb (getI 7 g a0 1) fun x3 => if x3 ≤ x1 then
  some (.inr (), g)
  else
  gb (getR 7 g a0 0) fun x6 => gb (getI 7 g a0 4) fun x8 => gb (aldI 0 g x6 x8) fun x10 => cb (x7_kindOf x10 g) fun r12 g13 => gb (getI 7 g13 a0 2) fun x15 => if r12 = x15 then
  gb (getI 7 g13 a0 4) fun x18 => gb (putV 7 g13 a0 4 (.int (x18 + 1))) fun g20 => some (.inl (), g20)
  else
  some (.inr (), g13)
def x7_readNext_j104 (a0 : Nat) (s0 : Int32) (s1 : Nat) (g : AH) : Option (Unit × AH) :=
  gb (putV 7 g s1 4 (.int s0)) fun g1 => gb (getI 7 g1 a0 2) fun x3 => if x3 = 1 then
  cb (loopX (x7_readNext_l123 a0) 1000 () g1) fun t6 g7 =>
  some ((), g7)
  else
  gb (getI 7 g1 a0 2) fun x9 => if x9 = 2 then
  cb (loopX (x7_readNext_l123 a0) 1000 () g1) fun t12 g13 =>
  some ((), g13)
  else
  some ((), g1)
def x7_readNext_j76 (a0 : Nat) (s0 : Int32) (s1 : Nat) (g : AH) : Option (Unit × AH) :=
  gb (putV 7 g s1 2 (.int s0)) fun g1 => gb (getI 7 g1 a0 3) fun x3 => gb (getI 7 g1 a0 1) fun x5 => if x5 ≤ x3 then
  gb (getI 7 g1 a0 3) fun x8 => x7_readNext_j104 a0 x8 a0 g1
  else
  gb (getI 7 g1 a0 3) fun x10 => x7_readNext_j104 a0 (x10 + 1) a0 g1
def x7_readNext_j48 (a0 : Nat) (g : AH) : Option (Unit × AH) :=
  gb (getI 7 g a0 3) fun x1 => gb (getI 7 g a0 1) fun x3 => if x3 ≤ x1 then
  x7_readNext_j76 a0 0 a0 g
  else
  gb (getR 7 g a0 0) fun x6 => gb (getI 7 g a0 3) fun x8 => gb (aldI 0 g x6 x8) fun x10 => cb (x7_kindOf x10 g) fun r12 g13 => x7_readNext_j76 a0 r12 a0 g13
def x7_readNext (p : Nat) (g : AH) : Option (Unit × AH) :=
  gb (getI 7 g p 4) fun x1 => gb (putV 7 g p 3 (.int x1)) fun g3 => cb (loopX (x7_readNext_l8 p) 1000 () g3) fun t5 g6 =>
  x7_readNext_j48 p g6
def x7_readFirst (p : Nat) (g : AH) : Option (Unit × AH) :=
  gb (putV 7 g p 4 (.int 0)) fun g1 => gb (isO 7 g1 p) fun _ => cb (x7_readNext p g1) fun r3 g4 => some ((), g4)
def x0_begin (p : Nat) (g : AH) : Option (Unit × AH) :=
  gb (putV 0 g p 1 (.int 0)) fun g1 => gb (putV 0 g1 p 2 (.int (-1))) fun g3 => gb (getR 0 g3 p 0) fun x5 => gb (isO 7 g3 x5) fun _ => cb (x7_readFirst x5 g3) fun r7 g8 => some ((), g8)
def x7_isWord_l28 (a0 : Nat) (a1 : Nat) (s0 : Int32) (g : AH) : Option (((Int32) ⊕ ((Unit) ⊕ Int32)) × AH) :=
  gb (strLen a1) fun x1 => if x1 ≤ s0 then
  some (.inr (.inl ()), g)
  else
  gb (getR 7 g a0 0) fun x4 => gb (getI 7 g a0 3) fun x6 => gb (aldI 0 g x4 (x6 + s0)) fun x8 => gb (strAt a1 s0) fun x10 => if x8 = x10 then
  some (.inl (s0 + 1), g)
  else
  some (.inr (.inr 0), g)
def x7_isWord (p : Nat) (b0 : Nat) (g : AH) : Option (Int32 × AH) :=
  gb (getI 7 g p 2) fun x1 => if x1 = 1 then
  gb (getI 7 g p 4) fun x4 => gb (getI 7 g p 3) fun x6 => gb (strLen b0) fun x8 => if (x4 - x6) = x8 then
  cb (loopX (x7_isWord_l28 p b0) 1000 0 g) fun t11 g12 => Sum.elim (fun t14 =>
  some (1, g12)) (fun t15 => some (t15, g12)) t11
  else
  some (0, g)
  else
  some (0, g)
def x0_fail (p : Nat) (b0 : Int32) (g : AH) : Option (Int32 × AH) :=
  gb (putV 0 g p 1 (.int b0)) fun g1 => gb (getR 0 g1 p 0) fun x3 => gb (getI 7 g1 x3 3) fun x5 => gb (putV 0 g1 p 2 (.int x5)) fun g7 => some (0, g7)
def x0_readWord (p : Nat) (b0 : Nat) (g : AH) : Option (Int32 × AH) :=
  gb (getR 0 g p 0) fun x1 => gb (isO 7 g x1) fun _ => cb (x7_isWord x1 b0 g) fun r3 g4 => if r3 = 0 then
  gb (isO 0 g4 p) fun _ => cb (x0_fail p 1 g4) fun r16 g17 => if bz r16 then some (r16, g17) else none
  else
  gb (getR 0 g4 p 0) fun x9 => gb (isO 7 g4 x9) fun _ => cb (x7_readNext x9 g4) fun r11 g12 => some (1, g12)
def x7_value_l7 (a0 : Nat) (s0 : Int32 × Int32) (g : AH) : Option (((Int32 × Int32) ⊕ (Int32)) × AH) :=
  gb (getI 7 g a0 4) fun x1 => if x1 ≤ s0.2 then
  some (.inr s0.1, g)
  else
  gb (getR 7 g a0 0) fun x4 => gb (aldI 0 g x4 s0.2) fun x6 => some (.inl ((if 1000 < (((10 * s0.1) + x6) - 48) then 1000 else (((10 * s0.1) + x6) - 48)), (s0.2 + 1)), g)
def x7_value (p : Nat) (g : AH) : Option (Int32 × AH) :=
  gb (getI 7 g p 3) fun x1 => cb (loopX (x7_value_l7 p) 1000 (0, x1) g) fun t3 g4 =>
  some (t3, g4)
def x0_isNumber_j40  (g : AH) : Option (Int32 × AH) :=
  some (1, g)
def x0_isNumber (p : Nat) (b0 : Int32) (b1 : Int32) (g : AH) : Option (Int32 × AH) :=
  gb (getR 0 g p 0) fun x1 => gb (getI 7 g x1 2) fun x3 => if x3 = 2 then
  gb (getR 0 g p 0) fun x6 => gb (isO 7 g x6) fun _ => cb (x7_value x6 g) fun r8 g9 => cb (x8_isWithin r8 b0 b1 g9) fun r13 g14 => if r13 = 0 then
  gb (isO 0 g14 p) fun _ => cb (x0_fail p 2 g14) fun r17 g18 => if r17 = 0 then
  some (0, g18)
  else
  x0_isNumber_j40  g18
  else
  x0_isNumber_j40  g14
  else
  gb (isO 0 g p) fun _ => cb (x0_fail p 1 g) fun r23 g24 => if bz r23 then some (r23, g24) else none
def x0_readSemicolon (p : Nat) (g : AH) : Option (Int32 × AH) :=
  gb (getR 0 g p 0) fun x1 => gb (getI 7 g x1 2) fun x3 => if x3 = 3 then
  gb (getR 0 g p 0) fun x6 => gb (isO 7 g x6) fun _ => cb (x7_readNext x6 g) fun r8 g9 => some (1, g9)
  else
  gb (isO 0 g p) fun _ => cb (x0_fail p 1 g) fun r13 g14 => if bz r13 then some (r13, g14) else none
def x0_readLogs (p : Nat) (b0 : Nat) (g : AH) : Option (Int32 × AH) :=
  gb (isO 0 g p) fun _ => cb (x0_readWord p 1 g) fun r1 g2 => if r1 = 0 then
  some (0, g2)
  else
  gb (isO 0 g2 p) fun _ => cb (x0_isNumber p 0 99 g2) fun r7 g8 => if r7 = 0 then
  some (0, g8)
  else
  gb (getR 0 g8 p 0) fun x13 => gb (isO 7 g8 x13) fun _ => cb (x7_value x13 g8) fun r15 g16 => gb (putV 3 g16 b0 1 (.int r15)) fun g20 => gb (getR 0 g20 p 0) fun x22 => gb (isO 7 g20 x22) fun _ => cb (x7_readNext x22 g20) fun r24 g25 => gb (isO 0 g25 p) fun _ => cb (x0_readSemicolon p g25) fun r29 g30 => if bz r29 then some (r29, g30) else none
def x0_readRow_l8 (a0 : Nat) (a1 : Nat) (a2 : Int32) (a3 : Int32) (s0 : Int32) (g : AH) : Option (((Int32) ⊕ ((Unit) ⊕ Int32)) × AH) :=
  gb (alen 0 g a1) fun x1 => if x1 < s0 then
  some (.inr (.inl ()), g)
  else
  gb (getR 0 g a0 0) fun x4 => gb (getI 7 g x4 2) fun x6 => if x6 = 2 then
  gb (isO 0 g a0) fun _ => cb (x0_isNumber a0 a2 a3 g) fun r9 g10 => if r9 = 0 then
  some (.inr (.inr 0), g10)
  else
  gb (alen 0 g10 a1) fun x15 => if s0 < x15 then
  gb (getR 0 g10 a0 0) fun x18 => gb (isO 7 g10 x18) fun _ => cb (x7_value x18 g10) fun r20 g21 => gb (astI 0 g21 a1 s0 r20) fun g25 => gb (putV 0 g25 a0 3 (.int (s0 + 1))) fun g27 => gb (getR 0 g27 a0 0) fun x29 => gb (isO 7 g27 x29) fun _ => cb (x7_readNext x29 g27) fun r31 g32 => some (.inl (s0 + 1), g32)
  else
  gb (isO 0 g10 a0) fun _ => cb (x0_fail a0 3 g10) fun r36 g37 => if bz r36 then some (.inr (.inr r36), g37) else none
  else
  some (.inr (.inl ()), g)
def x0_readRow_j82 (a0 : Nat) (g : AH) : Option (Int32 × AH) :=
  gb (isO 0 g a0) fun _ => cb (x0_readSemicolon a0 g) fun r1 g2 => if bz r1 then some (r1, g2) else none
def x0_readRow (p : Nat) (b0 : Nat) (b1 : Int32) (b2 : Int32) (g : AH) : Option (Int32 × AH) :=
  gb (putV 0 g p 3 (.int 0)) fun g1 => cb (loopX (x0_readRow_l8 p b0 b1 b2) 1000 0 g1) fun t3 g4 => Sum.elim (fun t6 =>
  x0_readRow_j82 p g4) (fun t7 => some (t7, g4)) t3
def x0_readBunks_j36 (a0 : Nat) (a1 : Nat) (s0 : Int32) (g : AH) : Option (Int32 × AH) :=
  gb (getI 0 g a0 3) fun x1 => gb (putV 3 g a1 9 (.int x1)) fun g3 => if bz s0 then some (s0, g3) else none
def x0_readBunks_j35 (a0 : Nat) (a1 : Nat) (g : AH) : Option (Int32 × AH) :=
  x0_readBunks_j36 a0 a1 0 g
def x0_readBunks (p : Nat) (b0 : Nat) (g : AH) : Option (Int32 × AH) :=
  gb (isO 0 g p) fun _ => cb (x0_readWord p 2 g) fun r1 g2 => if r1 = 0 then
  x0_readBunks_j35 p b0 g2
  else
  gb (isO 0 g2 p) fun _ => cb (x0_isNumber p 0 5 g2) fun r7 g8 => if r7 = 0 then
  x0_readBunks_j35 p b0 g8
  else
  gb (getR 3 g8 b0 13) fun x13 => gb (isO 0 g8 p) fun _ => cb (x0_readRow p x13 0 5 g8) fun r15 g16 => if r15 = 0 then
  x0_readBunks_j35 p b0 g16
  else
  x0_readBunks_j36 p b0 1 g16
def x0_readBlankets_j28 (a0 : Nat) (a1 : Nat) (s0 : Int32) (g : AH) : Option (Int32 × AH) :=
  gb (getI 0 g a0 3) fun x1 => gb (putV 3 g a1 10 (.int x1)) fun g3 => if bz s0 then some (s0, g3) else none
def x0_readBlankets_j27 (a0 : Nat) (a1 : Nat) (g : AH) : Option (Int32 × AH) :=
  x0_readBlankets_j28 a0 a1 0 g
def x0_readBlankets (p : Nat) (b0 : Nat) (g : AH) : Option (Int32 × AH) :=
  gb (isO 0 g p) fun _ => cb (x0_readWord p 3 g) fun r1 g2 => if r1 = 0 then
  x0_readBlankets_j27 p b0 g2
  else
  gb (getR 3 g2 b0 14) fun x7 => gb (isO 0 g2 p) fun _ => cb (x0_readRow p x7 1 9 g2) fun r9 g10 => if r9 = 0 then
  x0_readBlankets_j27 p b0 g10
  else
  x0_readBlankets_j28 p b0 1 g10
def x0_readForecast_j38 (a0 : Nat) (a1 : Nat) (s0 : Int32) (g : AH) : Option (Int32 × AH) :=
  gb (getI 0 g a0 3) fun x1 => gb (putV 3 g a1 11 (.int x1)) fun g3 => if bz s0 then some (s0, g3) else none
def x0_readForecast_j37 (a0 : Nat) (a1 : Nat) (g : AH) : Option (Int32 × AH) :=
  x0_readForecast_j38 a0 a1 0 g
def x0_readForecast (p : Nat) (b0 : Nat) (g : AH) : Option (Int32 × AH) :=
  gb (isO 0 g p) fun _ => cb (x0_readWord p 4 g) fun r1 g2 => if r1 = 0 then
  x0_readForecast_j37 p b0 g2
  else
  gb (isO 0 g2 p) fun _ => cb (x0_isNumber p 0 20 g2) fun r7 g8 => if r7 = 0 then
  x0_readForecast_j37 p b0 g8
  else
  gb (getR 3 g8 b0 15) fun x13 => gb (isO 0 g8 p) fun _ => cb (x0_readRow p x13 0 20 g8) fun r15 g16 => if r15 = 0 then
  x0_readForecast_j37 p b0 g16
  else
  x0_readForecast_j38 p b0 1 g16
def x0_readHiker (p : Nat) (b0 : Nat) (g : AH) : Option (Int32 × AH) :=
  gb (isO 0 g p) fun _ => cb (x0_isNumber p 1 30 g) fun r1 g2 => if r1 = 0 then
  some (0, g2)
  else
  gb (getR 0 g2 p 0) fun x7 => gb (isO 7 g2 x7) fun _ => cb (x7_value x7 g2) fun r9 g10 => gb (putV 1 g10 b0 0 (.int r9)) fun g14 => gb (getR 0 g14 p 0) fun x16 => gb (isO 7 g14 x16) fun _ => cb (x7_readNext x16 g14) fun r18 g19 => gb (isO 0 g19 p) fun _ => cb (x0_isNumber p 0 9 g19) fun r23 g24 => if r23 = 0 then
  some (0, g24)
  else
  gb (getR 0 g24 p 0) fun x29 => gb (isO 7 g24 x29) fun _ => cb (x7_value x29 g24) fun r31 g32 => gb (putV 1 g32 b0 1 (.int r31)) fun g36 => gb (getR 0 g36 p 0) fun x38 => gb (isO 7 g36 x38) fun _ => cb (x7_readNext x38 g36) fun r40 g41 => gb (isO 0 g41 p) fun _ => cb (x0_isNumber p 0 99 g41) fun r45 g46 => if r45 = 0 then
  some (0, g46)
  else
  gb (getR 0 g46 p 0) fun x51 => gb (isO 7 g46 x51) fun _ => cb (x7_value x51 g46) fun r53 g54 => gb (putV 1 g54 b0 2 (.int r53)) fun g58 => gb (getR 0 g58 p 0) fun x60 => gb (isO 7 g58 x60) fun _ => cb (x7_readNext x60 g58) fun r62 g63 => gb (isO 0 g63 p) fun _ => cb (x0_readSemicolon p g63) fun r67 g68 => if bz r67 then some (r67, g68) else none
def x0_readHikers_j29_2 (a0 : Nat) (a1 : Nat) (a2 : Int32) (g : AH) : Option (((Int32) ⊕ ((Unit) ⊕ Int32)) × AH) :=
  gb (getR 0 g a0 0) fun x1 => gb (isO 7 g x1) fun _ => cb (x7_isWord x1 5 g) fun r3 g4 => if r3 = 0 then
  gb (isO 0 g4 a0) fun _ => cb (x0_fail a0 1 g4) fun r33 g34 => if bz r33 then some (.inr (.inr r33), g34) else none
  else
  if a2 < 10 then
  gb (getR 0 g4 a0 0) fun x10 => gb (isO 7 g4 x10) fun _ => cb (x7_readNext x10 g4) fun r12 g13 => gb (getR 3 g13 a1 18) fun x17 => gb (aldR 4 g13 x17 a2) fun x19 => gb (isO 0 g13 a0) fun _ => cb (x0_readHiker a0 x19 g13) fun r21 g22 => if r21 = 0 then
  some (.inr (.inr 0), g22)
  else
  some (.inl (a2 + 1), g22)
  else
  gb (isO 0 g4 a0) fun _ => cb (x0_fail a0 3 g4) fun r27 g28 => if bz r27 then some (.inr (.inr r27), g28) else none
def x0_readHikers_l2 (a0 : Nat) (a1 : Nat) (s0 : Int32) (g : AH) : Option (((Int32) ⊕ ((Unit) ⊕ Int32)) × AH) :=
  if 10 < s0 then
  some (.inr (.inl ()), g)
  else
  if s0 ≤ 0 then
  x0_readHikers_j29_2 a0 a1 s0 g
  else
  gb (getR 0 g a0 0) fun x3 => gb (getI 7 g x3 2) fun x5 => if x5 = 0 then
  gb (putV 3 g a1 12 (.int s0)) fun g8 => some (.inr (.inr 1), g8)
  else
  x0_readHikers_j29_2 a0 a1 s0 g
def x0_readHikers (p : Nat) (b0 : Nat) (g : AH) : Option (Int32 × AH) :=
  cb (loopX (x0_readHikers_l2 p b0) 1000 0 g) fun t1 g2 => Sum.elim (fun t4 =>
  some (0, g2)) (fun t5 => some (t5, g2)) t1
def x3_sumOfCoins_l4 (a0 : Nat) (s0 : Int32 × Int32) (g : AH) : Option (((Int32 × Int32) ⊕ (Int32)) × AH) :=
  gb (getI 3 g a0 12) fun x1 => if x1 ≤ s0.2 then
  some (.inr s0.1, g)
  else
  gb (getR 3 g a0 18) fun x4 => gb (aldR 4 g x4 s0.2) fun x6 => gb (getI 1 g x6 2) fun x8 => some (.inl ((s0.1 + x8), (s0.2 + 1)), g)
def x3_sumOfCoins (p : Nat) (g : AH) : Option (Int32 × AH) :=
  cb (loopX (x3_sumOfCoins_l4 p) 1000 (0, 0) g) fun t1 g2 =>
  some (t1, g2)
def x3_temperatureInside_j26 (a0 : Nat) (s0 : Int32) (g : AH) : Option (Int32 × AH) :=
  gb (getI 3 g a0 2) fun x1 => some ((s0 + x1), g)
def x3_temperatureInside (p : Nat) (g : AH) : Option (Int32 × AH) :=
  gb (getI 3 g p 11) fun x1 => if 1 ≤ x1 then
  gb (getR 3 g p 15) fun x4 => gb (getI 3 g p 0) fun x6 => gb (getI 3 g p 11) fun x8 => if x8 = 0 then none else gb (aldI 0 g x4 (x6 - x6 / x8 * x8)) fun x11 => x3_temperatureInside_j26 p x11 g
  else
  x3_temperatureInside_j26 p 0 g
def x3_hasBlanket (p : Nat) (b0 : Int32) (g : AH) : Option (Int32 × AH) :=
  if b0 < 0 then
  some (0, g)
  else
  gb (getI 3 g p 10) fun x2 => if x2 ≤ b0 then
  some (0, g)
  else
  some (1, g)
def x3_hasBunk (p : Nat) (b0 : Int32) (g : AH) : Option (Int32 × AH) :=
  if b0 < 0 then
  some (0, g)
  else
  gb (getI 3 g p 9) fun x2 => if x2 ≤ b0 then
  some (0, g)
  else
  some (1, g)
def x3_warmthOfBunk_j49 (a0 : Nat) (a1 : Int32) (a3 : Int32) (s0 : Int32) (g : AH) : Option (Int32 × AH) :=
  gb (getR 3 g a0 13) fun x1 => gb (aldI 0 g x1 a1) fun x3 => some (((x3 + a3) + s0), g)
def x3_warmthOfBunk_j31 (a0 : Nat) (a1 : Int32) (a2 : Int32) (s0 : Int32) (g : AH) : Option (Int32 × AH) :=
  gb (getR 3 g a0 16) fun x1 => gb (aldI 0 g x1 (a2 + 1)) fun x3 => if x3 = (-1) then
  x3_warmthOfBunk_j49 a0 a1 s0 0 g
  else
  x3_warmthOfBunk_j49 a0 a1 s0 1 g
def x3_warmthOfBunk (p : Nat) (b0 : Int32) (g : AH) : Option (Int32 × AH) :=
  gb (isO 3 g p) fun _ => cb (x3_hasBunk p b0 g) fun r1 g2 => if r1 = 0 then
  some (0, g2)
  else
  gb (getR 3 g2 p 16) fun x7 => gb (aldI 0 g2 x7 ((b0 + 2) - 1)) fun x9 => if x9 = (-1) then
  x3_warmthOfBunk_j31 p b0 (b0 + 2) 0 g2
  else
  x3_warmthOfBunk_j31 p b0 (b0 + 2) 1 g2
def x1_isCold (p : Nat) (g : AH) : Option (Int32 × AH) :=
  gb (getI 1 g p 7) fun x1 => gb (getI 1 g p 0) fun x3 => if x3 ≤ x1 then
  some (0, g)
  else
  some (1, g)
def x3_measure_l7 (a0 : Nat) (a1 : Int32) (s0 : Int32) (g : AH) : Option (((Int32) ⊕ (Unit)) × AH) :=
  gb (getR 3 g a0 17) fun x1 => gb (alen 0 g x1) fun x3 => if x3 ≤ s0 then
  some (.inr (), g)
  else
  gb (getR 3 g a0 17) fun x6 => gb (astI 0 g x6 s0 0) fun g8 => some (.inl (s0 + 1), g8)
def x3_measure_j126_31 (a0 : Nat) (a1 : Int32) (a2 : Int32) (g : AH) : Option (((Int32) ⊕ (Unit)) × AH) :=
  some (.inl (a2 + 1), g)
def x3_measure_j71_31 (a0 : Nat) (a1 : Int32) (a2 : Int32) (a3 : Nat) (s0 : Int32) (s1 : Nat) (g : AH) : Option (((Int32) ⊕ (Unit)) × AH) :=
  gb (putV 1 g s1 6 (.int s0)) fun g1 => gb (getI 1 g1 a3 6) fun x3 => gb (getI 1 g1 a3 4) fun x5 => gb (isO 3 g1 a0) fun _ => cb (x3_warmthOfBunk a0 x5 g1) fun r7 g8 => gb (putV 1 g8 a3 7 (.int ((a1 + x3) + r7))) fun g12 => gb (getI 1 g12 a3 4) fun x14 => gb (isO 3 g12 a0) fun _ => cb (x3_hasBunk a0 x14 g12) fun r16 g17 => if r16 = 0 then
  x3_measure_j126_31 a0 a1 a2 g17
  else
  gb (isO 1 g17 a3) fun _ => cb (x1_isCold a3 g17) fun r22 g23 => if r22 = 0 then
  gb (getR 3 g23 a0 17) fun x28 => gb (getI 1 g23 a3 4) fun x30 => gb (getI 1 g23 a3 1) fun x32 => gb (astI 0 g23 x28 (x30 + 2) x32) fun g34 => x3_measure_j126_31 a0 a1 a2 g34
  else
  x3_measure_j126_31 a0 a1 a2 g23
def x3_measure_l31 (a0 : Nat) (a1 : Int32) (s0 : Int32) (g : AH) : Option (((Int32) ⊕ (Unit)) × AH) :=
  gb (getI 3 g a0 12) fun x1 => if x1 ≤ s0 then
  some (.inr (), g)
  else
  gb (getR 3 g a0 18) fun x4 => gb (aldR 4 g x4 s0) fun x6 => gb (getI 1 g x6 5) fun x8 => gb (isO 3 g a0) fun _ => cb (x3_hasBlanket a0 x8 g) fun r10 g11 => if r10 = 0 then
  x3_measure_j71_31 a0 a1 s0 x6 0 x6 g11
  else
  gb (getR 3 g11 a0 14) fun x16 => gb (getI 1 g11 x6 5) fun x18 => gb (aldI 0 g11 x16 x18) fun x20 => x3_measure_j71_31 a0 a1 s0 x6 x20 x6 g11
def x3_measure (p : Nat) (g : AH) : Option (Unit × AH) :=
  gb (isO 3 g p) fun _ => cb (x3_temperatureInside p g) fun r1 g2 => cb (loopX (x3_measure_l7 p r1) 1000 0 g2) fun t6 g7 =>
  cb (loopX (x3_measure_l31 p r1) 1000 0 g7) fun t9 g10 =>
  some ((), g10)
def x3_open (p : Nat) (g : AH) : Option (Unit × AH) :=
  gb (getI 3 g p 1) fun x1 => gb (putV 3 g p 8 (.int x1)) fun g3 => gb (isO 3 g3 p) fun _ => cb (x3_sumOfCoins p g3) fun r5 g6 => gb (putV 3 g6 p 7 (.int r5)) fun g10 => gb (isO 3 g10 p) fun _ => cb (x3_measure p g10) fun r12 g13 => some ((), g13)
def x0_readSetup_j49 (a1 : Nat) (s0 : Int32) (g : AH) : Option (Int32 × AH) :=
  if s0 = 0 then
  if bz s0 then some (s0, g) else none
  else
  gb (isO 3 g a1) fun _ => cb (x3_open a1 g) fun r3 g4 => if bz s0 then some (s0, g4) else none
def x0_readSetup_j48 (a1 : Nat) (g : AH) : Option (Int32 × AH) :=
  x0_readSetup_j49 a1 0 g
def x0_readSetup (p : Nat) (b0 : Nat) (g : AH) : Option (Int32 × AH) :=
  gb (isO 0 g p) fun _ => cb (x0_begin p g) fun r1 g2 => gb (isO 0 g2 p) fun _ => cb (x0_readLogs p b0 g2) fun r6 g7 => if r6 = 0 then
  x0_readSetup_j48 b0 g7
  else
  gb (isO 0 g7 p) fun _ => cb (x0_readBunks p b0 g7) fun r12 g13 => if r12 = 0 then
  x0_readSetup_j48 b0 g13
  else
  gb (isO 0 g13 p) fun _ => cb (x0_readBlankets p b0 g13) fun r18 g19 => if r18 = 0 then
  x0_readSetup_j48 b0 g19
  else
  gb (isO 0 g19 p) fun _ => cb (x0_readForecast p b0 g19) fun r24 g25 => if r24 = 0 then
  x0_readSetup_j48 b0 g25
  else
  gb (isO 0 g25 p) fun _ => cb (x0_readHikers p b0 g25) fun r30 g31 => if r30 = 0 then
  x0_readSetup_j48 b0 g31
  else
  x0_readSetup_j49 b0 1 g31
def x1_copyFrom (p : Nat) (b0 : Nat) (g : AH) : Option (Unit × AH) :=
  gb (getI 1 g b0 0) fun x1 => gb (putV 1 g p 0 (.int x1)) fun g3 => gb (getI 1 g3 b0 1) fun x5 => gb (putV 1 g3 p 1 (.int x5)) fun g7 => gb (getI 1 g7 b0 2) fun x9 => gb (putV 1 g7 p 2 (.int x9)) fun g11 => gb (getI 1 g11 b0 3) fun x13 => gb (putV 1 g11 p 3 (.int x13)) fun g15 => gb (getI 1 g15 b0 4) fun x17 => gb (putV 1 g15 p 4 (.int x17)) fun g19 => gb (getI 1 g19 b0 5) fun x21 => gb (putV 1 g19 p 5 (.int x21)) fun g23 => gb (getI 1 g23 b0 6) fun x25 => gb (putV 1 g23 p 6 (.int x25)) fun g27 => gb (getI 1 g27 b0 7) fun x29 => gb (putV 1 g27 p 7 (.int x29)) fun g31 => gb (getR 1 g31 b0 8) fun x33 => gb (getR 1 g31 p 8) fun x35 => gb (acpy g31 x33 0 x35 0 4) fun g37 => some ((), g37)
def x3_copyFrom_l181 (a0 : Nat) (a1 : Nat) (s0 : Int32) (g : AH) : Option (((Int32) ⊕ (Unit)) × AH) :=
  gb (getI 3 g a0 12) fun x1 => if x1 ≤ s0 then
  some (.inr (), g)
  else
  gb (getR 3 g a0 18) fun x4 => gb (aldR 4 g x4 s0) fun x6 => gb (getR 3 g a1 18) fun x8 => gb (aldR 4 g x8 s0) fun x10 => gb (isO 1 g x6) fun _ => cb (x1_copyFrom x6 x10 g) fun r12 g13 => some (.inl (s0 + 1), g13)
def x3_copyFrom (p : Nat) (b0 : Nat) (g : AH) : Option (Unit × AH) :=
  gb (getI 3 g b0 0) fun x1 => gb (putV 3 g p 0 (.int x1)) fun g3 => gb (getI 3 g3 b0 1) fun x5 => gb (putV 3 g3 p 1 (.int x5)) fun g7 => gb (getI 3 g7 b0 2) fun x9 => gb (putV 3 g7 p 2 (.int x9)) fun g11 => gb (getI 3 g11 b0 3) fun x13 => gb (putV 3 g11 p 3 (.int x13)) fun g15 => gb (getI 3 g15 b0 4) fun x17 => gb (putV 3 g15 p 4 (.int x17)) fun g19 => gb (getI 3 g19 b0 5) fun x21 => gb (putV 3 g19 p 5 (.int x21)) fun g23 => gb (getI 3 g23 b0 6) fun x25 => gb (putV 3 g23 p 6 (.int x25)) fun g27 => gb (getI 3 g27 b0 7) fun x29 => gb (putV 3 g27 p 7 (.int x29)) fun g31 => gb (getI 3 g31 b0 8) fun x33 => gb (putV 3 g31 p 8 (.int x33)) fun g35 => gb (getI 3 g35 b0 9) fun x37 => gb (putV 3 g35 p 9 (.int x37)) fun g39 => gb (getI 3 g39 b0 10) fun x41 => gb (putV 3 g39 p 10 (.int x41)) fun g43 => gb (getI 3 g43 b0 11) fun x45 => gb (putV 3 g43 p 11 (.int x45)) fun g47 => gb (getI 3 g47 b0 12) fun x49 => gb (putV 3 g47 p 12 (.int x49)) fun g51 => gb (getR 3 g51 b0 13) fun x53 => gb (getR 3 g51 p 13) fun x55 => gb (acpy g51 x53 0 x55 0 12) fun g57 => gb (getR 3 g57 b0 14) fun x59 => gb (getR 3 g57 p 14) fun x61 => gb (acpy g57 x59 0 x61 0 12) fun g63 => gb (getR 3 g63 b0 15) fun x65 => gb (getR 3 g63 p 15) fun x67 => gb (acpy g63 x65 0 x67 0 12) fun g69 => gb (getR 3 g69 b0 16) fun x71 => gb (getR 3 g69 p 16) fun x73 => gb (acpy g69 x71 0 x73 0 16) fun g75 => gb (getR 3 g75 b0 17) fun x77 => gb (getR 3 g75 p 17) fun x79 => gb (acpy g75 x77 0 x79 0 16) fun g81 => cb (loopX (x3_copyFrom_l181 p b0) 1000 0 g81) fun t83 g84 =>
  some ((), g84)
set_option maxHeartbeats 4000000 in
set_option maxRecDepth 100000 in
theorem t_x8_isWithin_b {l : Launch} {G : GG} {M : MC} (X : CX M G cX8_isWithin 3 RX8 ⟨1, 0, 0, 60⟩) (hl0 : M.2.1 = l) (hr : (mM M).sig.returnType = (some .boolean)) (hnm : (mM M).name = yX8_isWithin.name) {b0 : Int32} {b1 : Int32} {b2 : Int32} {g : AH} {r : Int32} {g1 : AH} (E : x8_isWithin b0 b1 b2 g = some (r, g1)) : WW M G 3 (RQ M G (some (.int r)) g1 0 0) 0 0 g 0 [(0, .int b0), (1, .int b1), (2, .int b2)] [] := by
  unfold x8_isWithin at E
  refine r_iload_n X 1 dX8_isWithin_0 rfl rfl ?_
  refine r_iload_n X 0 dX8_isWithin_1 rfl rfl ?_
  refine r_icmp_gt X 14 dX8_isWithin_2 (by decide) (fun c1 => ?_) (fun c1 => ?_)
  · rw [if_pos c1] at E
    refine r_iconst X (v := 0) dX8_isWithin_14 (by decide) ?_
    cases E
    exact r_zret X hr (Or.inl rfl) dX8_isWithin_15 (by decide) (by decide)
  · rw [if_neg c1] at E
    refine r_iload_n X 0 dX8_isWithin_5 rfl rfl ?_
    refine r_iload_n X 2 dX8_isWithin_6 rfl rfl ?_
    refine r_icmp_gt X 14 dX8_isWithin_7 (by decide) (fun c2 => ?_) (fun c2 => ?_)
    · rw [if_pos c2] at E
      refine r_iconst X (v := 0) dX8_isWithin_14 (by decide) ?_
      cases E
      exact r_zret X hr (Or.inl rfl) dX8_isWithin_15 (by decide) (by decide)
    · rw [if_neg c2] at E
      refine r_iconst X (v := 1) dX8_isWithin_10 (by decide) ?_
      refine r_goto X 15 dX8_isWithin_11 (by decide) ?_
      cases E
      exact r_zret X hr (Or.inr rfl) dX8_isWithin_15 (by decide) (by decide)
theorem t_x8_isWithin {l : Launch} {G : GG} {b0 : Int32} {b1 : Int32} {b2 : Int32} {g : AH} {r : Int32} {g1 : AH} (E : x8_isWithin b0 b1 b2 g = some (r, g1)) : Ct l G yX8_isWithin cX8_isWithin 3 (some .boolean) ⟨1, 0, 0, 60⟩ [.int b0, .int b1, .int b2] g (some (.int r)) g1 :=
  ct_of (L0 := [(0, .int b0), (1, .int b1), (2, .int b2)]) y_X8_isWithin rfl (Nat.le_of_ble_eq_true rfl) fun M hl0 X hr hnm => t_x8_isWithin_b X hl0 hr hnm E
set_option maxHeartbeats 4000000 in
set_option maxRecDepth 100000 in
theorem t_x8_truncateText_b {l : Launch} {G : GG} {M : MC} (X : CX M G cX8_truncateText 2 RX8 ⟨7, 1, 6, 200⟩) (hl0 : M.2.1 = l) (hr : (mM M).sig.returnType = (some .int)) (hnm : (mM M).name = yX8_truncateText.name) (hnt : ∀ x ∈ (mC M).exceptionTable.toList, False) (hst : l.stackTraces = false) {p : Nat} {b0 : Int32} {g : AH} {o : (Int32 ⊕ String)} {g1 : AH} (E : x8_truncateText p b0 g = some (o, g1)) : WW M G 2 (RX M G (ovI o) g1 1 6) 0 0 g 0 [(0, .ref p), (1, .int b0)] [] := by
  unfold x8_truncateText at E
  refine r_iload_n X 1 dX8_truncateText_0 rfl rfl ?_
  refine r_iconst X (v := 0) dX8_truncateText_1 (by decide) ?_
  refine r_aload_n X 0 dX8_truncateText_2 rfl rfl ?_
  obtain ⟨x1, e2, E⟩ := gb_some E
  refine r_getR X dX8_truncateText_3 f_X8_48 e2 ?_
  obtain ⟨x3, e4, E⟩ := gb_some E
  refine r_getR X dX8_truncateText_6 f_X8_66 e4 ?_
  obtain ⟨x5, e6, E⟩ := gb_some E
  refine r_getI X dX8_truncateText_9 f_X8_82 e6 ?_
  obtain ⟨r7, g8, e9, E⟩ := cb_some E
  refine r_callS0 X hl0 dX8_truncateText_12 y_X8_isWithin m_X8_100 (t_x8_isWithin (l := l) (G := G) e9) rfl rfl (Nat.le_of_ble_eq_true rfl) (by decide) ?_
  refine r_if_ne X 28 dX8_truncateText_15 (by decide) (fun c10 => ?_) (fun c10 => ?_)
  · rw [if_neg c10] at E
    refine r_aload_n X 0 dX8_truncateText_28 rfl rfl ?_
    obtain ⟨x11, e12, E⟩ := gb_some E
    refine r_getR X dX8_truncateText_29 f_X8_48 e12 ?_
    obtain ⟨x13, e14, E⟩ := gb_some E
    refine r_getR X dX8_truncateText_32 f_X8_66 e14 ?_
    refine r_iload_n X 1 dX8_truncateText_35 rfl rfl ?_
    obtain ⟨g15, e16, E⟩ := gb_some E
    refine r_put X dX8_truncateText_36 f_X8_82 rfl rfl e16 ?_
    refine r_iload_n X 1 dX8_truncateText_39 rfl rfl ?_
    cases E
    exact r_ret (r_iret X hr dX8_truncateText_40 (by decide) (by decide))
  · rw [if_pos c10] at E
    cases E
    exact r_throw X hl0 hst hnt th_X8_108 k_X8_104 (List.mem_of_getElem? (i := 2) rfl) dX8_truncateText_18 dX8_truncateText_21 dX8_truncateText_22 dX8_truncateText_24 dX8_truncateText_27 ⟨by decide, Nat.le_of_ble_eq_true rfl⟩ (by decide) (by decide)
theorem t_x8_truncateText {l : Launch} (hst : l.stackTraces = false) {G : GG} {p : Nat} {b0 : Int32} {g : AH} {o : (Int32 ⊕ String)} {g1 : AH} (E : x8_truncateText p b0 g = some (o, g1)) : CtX l G yX8_truncateText cX8_truncateText 2 (some .int) ⟨7, 1, 6, 200⟩ [.ref p, .int b0] g (ovI o) g1 :=
  ctX_of (L0 := [(0, .ref p), (1, .int b0)]) y_X8_truncateText rfl (Nat.le_of_ble_eq_true rfl) fun M hl0 X hr hnm hnt => t_x8_truncateText_b X hl0 hr hnm hnt hst E
set_option maxHeartbeats 4000000 in
set_option maxRecDepth 100000 in
theorem t_x7_hasRoomFor_b {l : Launch} {G : GG} {M : MC} (X : CX M G cX7_hasRoomFor 2 RX7 ⟨1, 0, 0, 60⟩) (hl0 : M.2.1 = l) (hr : (mM M).sig.returnType = (some .boolean)) (hnm : (mM M).name = yX7_hasRoomFor.name) {p : Nat} {b0 : Int32} {g : AH} {r : Int32} {g1 : AH} (E : x7_hasRoomFor p b0 g = some (r, g1)) : WW M G 2 (RQ M G (some (.int r)) g1 0 0) 0 0 g 0 [(0, .ref p), (1, .int b0)] [] := by
  unfold x7_hasRoomFor at E
  refine r_aload_n X 0 dX7_hasRoomFor_0 rfl rfl ?_
  obtain ⟨x1, e2, E⟩ := gb_some E
  refine r_getI X dX7_hasRoomFor_1 f_X7_15 e2 ?_
  refine r_iload_n X 1 dX7_hasRoomFor_4 rfl rfl ?_
  refine r_iadd X dX7_hasRoomFor_5 ?_
  refine r_sipush X (v := 500) dX7_hasRoomFor_6 (by decide) ?_
  refine r_icmp_gt X 16 dX7_hasRoomFor_9 (by decide) (fun c3 => ?_) (fun c3 => ?_)
  · rw [if_pos c3] at E
    refine r_iconst X (v := 0) dX7_hasRoomFor_16 (by decide) ?_
    cases E
    exact r_zret X hr (Or.inl rfl) dX7_hasRoomFor_17 (by decide) (by decide)
  · rw [if_neg c3] at E
    refine r_iconst X (v := 1) dX7_hasRoomFor_12 (by decide) ?_
    refine r_goto X 17 dX7_hasRoomFor_13 (by decide) ?_
    cases E
    exact r_zret X hr (Or.inr rfl) dX7_hasRoomFor_17 (by decide) (by decide)
theorem t_x7_hasRoomFor {l : Launch} {G : GG} {p : Nat} {b0 : Int32} {g : AH} {r : Int32} {g1 : AH} (E : x7_hasRoomFor p b0 g = some (r, g1)) : Ct l G yX7_hasRoomFor cX7_hasRoomFor 2 (some .boolean) ⟨1, 0, 0, 60⟩ [.ref p, .int b0] g (some (.int r)) g1 :=
  ct_of (L0 := [(0, .ref p), (1, .int b0)]) y_X7_hasRoomFor rfl (Nat.le_of_ble_eq_true rfl) fun M hl0 X hr hnm => t_x7_hasRoomFor_b X hl0 hr hnm E
set_option maxHeartbeats 4000000 in
set_option maxRecDepth 100000 in
theorem t_x7_put_b {l : Launch} {G : GG} {M : MC} (X : CX M G cX7_put 2 RX7 ⟨2, 0, 0, 81⟩) (hl0 : M.2.1 = l) (hr : (mM M).sig.returnType = none) (hnm : (mM M).name = yX7_put.name) {p : Nat} {b0 : Int32} {g : AH} {r : Unit} {g1 : AH} (E : x7_put p b0 g = some (r, g1)) : WW M G 2 (RQ M G none g1 0 0) 0 0 g 0 [(0, .ref p), (1, .int b0)] [] := by
  unfold x7_put at E
  refine r_aload_n X 0 dX7_put_0 rfl rfl ?_
  refine r_iconst X (v := 1) dX7_put_1 (by decide) ?_
  obtain ⟨u4, e5, E⟩ := gb_some E
  obtain ⟨r1, g2, e3, E⟩ := cb_some E
  refine r_callV0 X hl0 (ci := 7) dX7_put_2 y_X7_hasRoomFor m_X7_19 rfl rfl e5 (t_x7_hasRoomFor (l := l) (G := G) e3) rfl rfl (Nat.le_of_ble_eq_true rfl) (by decide) ?_
  refine r_if_eq X 32 dX7_put_5 (by decide) (fun c6 => ?_) (fun c6 => ?_)
  · rw [if_pos c6] at E
    cases E
    exact r_vret X hr dX7_put_32 (by decide) (by decide)
  · rw [if_neg c6] at E
    refine r_aload_n X 0 dX7_put_8 rfl rfl ?_
    obtain ⟨x7, e8, E⟩ := gb_some E
    refine r_getR X dX7_put_9 f_X7_9 e8 ?_
    refine r_aload_n X 0 dX7_put_12 rfl rfl ?_
    obtain ⟨x9, e10, E⟩ := gb_some E
    refine r_getI X dX7_put_13 f_X7_15 e10 ?_
    refine r_iload_n X 1 dX7_put_16 rfl rfl ?_
    refine r_sipush X (v := 255) dX7_put_17 (by decide) ?_
    refine r_iand X dX7_put_20 ?_
    obtain ⟨g11, e12, E⟩ := gb_some E
    refine r_iast X dX7_put_21 e12 ?_
    refine r_aload_n X 0 dX7_put_22 rfl rfl ?_
    refine r_dup X dX7_put_23 rfl ?_
    obtain ⟨x13, e14, E⟩ := gb_some E
    refine r_getI X dX7_put_24 f_X7_15 e14 ?_
    refine r_iconst X (v := 1) dX7_put_27 (by decide) ?_
    refine r_iadd X dX7_put_28 ?_
    obtain ⟨g15, e16, E⟩ := gb_some E
    refine r_put X dX7_put_29 f_X7_15 rfl rfl e16 ?_
    cases E
    exact r_vret X hr dX7_put_32 (by decide) (by decide)
theorem t_x7_put {l : Launch} {G : GG} {p : Nat} {b0 : Int32} {g : AH} {r : Unit} {g1 : AH} (E : x7_put p b0 g = some (r, g1)) : Ct l G yX7_put cX7_put 2 none ⟨2, 0, 0, 81⟩ [.ref p, .int b0] g none g1 :=
  ct_of (L0 := [(0, .ref p), (1, .int b0)]) y_X7_put rfl (Nat.le_of_ble_eq_true rfl) fun M hl0 X hr hnm => t_x7_put_b X hl0 hr hnm E
set_option maxHeartbeats 4000000 in
set_option maxRecDepth 100000 in
theorem t_x8_appendText_b {l : Launch} {G : GG} {M : MC} (X : CX M G cX8_appendText 2 RX8 ⟨7, 1, 6, 200⟩) (hl0 : M.2.1 = l) (hr : (mM M).sig.returnType = (some .int)) (hnm : (mM M).name = yX8_appendText.name) (hnt : ∀ x ∈ (mC M).exceptionTable.toList, False) (hst : l.stackTraces = false) {p : Nat} {b0 : Int32} {g : AH} {o : (Int32 ⊕ String)} {g1 : AH} (E : x8_appendText p b0 g = some (o, g1)) : WW M G 2 (RX M G (ovI o) g1 1 6) 0 0 g 0 [(0, .ref p), (1, .int b0)] [] := by
  unfold x8_appendText at E
  refine r_aload_n X 0 dX8_appendText_0 rfl rfl ?_
  obtain ⟨x1, e2, E⟩ := gb_some E
  refine r_getR X dX8_appendText_1 f_X8_48 e2 ?_
  obtain ⟨x3, e4, E⟩ := gb_some E
  refine r_getR X dX8_appendText_4 f_X8_66 e4 ?_
  refine r_iconst X (v := 4) dX8_appendText_7 (by decide) ?_
  obtain ⟨u8, e9, E⟩ := gb_some E
  obtain ⟨r5, g6, e7, E⟩ := cb_some E
  refine r_callV0 X hl0 (ci := 7) dX8_appendText_8 y_X7_hasRoomFor m_X8_86 rfl rfl e9 (t_x7_hasRoomFor (l := l) (G := G) e7) rfl rfl (Nat.le_of_ble_eq_true rfl) (by decide) ?_
  refine r_if_ne X 24 dX8_appendText_11 (by decide) (fun c10 => ?_) (fun c10 => ?_)
  · rw [if_neg c10] at E
    refine r_aload_n X 0 dX8_appendText_24 rfl rfl ?_
    obtain ⟨x11, e12, E⟩ := gb_some E
    refine r_getR X dX8_appendText_25 f_X8_48 e12 ?_
    obtain ⟨x13, e14, E⟩ := gb_some E
    refine r_getR X dX8_appendText_28 f_X8_66 e14 ?_
    refine r_iload_n X 1 dX8_appendText_31 rfl rfl ?_
    refine r_bipush X (v := 24) dX8_appendText_32 (by decide) ?_
    refine r_iushr X dX8_appendText_34 ?_
    obtain ⟨u18, e19, E⟩ := gb_some E
    obtain ⟨r15, g16, e17, E⟩ := cb_some E
    refine r_callV0 X hl0 (ci := 7) dX8_appendText_35 y_X7_put m_X8_96 rfl rfl e19 (t_x7_put (l := l) (G := G) e17) rfl rfl (Nat.le_of_ble_eq_true rfl) (by decide) ?_
    refine r_aload_n X 0 dX8_appendText_38 rfl rfl ?_
    obtain ⟨x20, e21, E⟩ := gb_some E
    refine r_getR X dX8_appendText_39 f_X8_48 e21 ?_
    obtain ⟨x22, e23, E⟩ := gb_some E
    refine r_getR X dX8_appendText_42 f_X8_66 e23 ?_
    refine r_iload_n X 1 dX8_appendText_45 rfl rfl ?_
    refine r_bipush X (v := 16) dX8_appendText_46 (by decide) ?_
    refine r_iushr X dX8_appendText_48 ?_
    obtain ⟨u27, e28, E⟩ := gb_some E
    obtain ⟨r24, g25, e26, E⟩ := cb_some E
    refine r_callV0 X hl0 (ci := 7) dX8_appendText_49 y_X7_put m_X8_96 rfl rfl e28 (t_x7_put (l := l) (G := G) e26) rfl rfl (Nat.le_of_ble_eq_true rfl) (by decide) ?_
    refine r_aload_n X 0 dX8_appendText_52 rfl rfl ?_
    obtain ⟨x29, e30, E⟩ := gb_some E
    refine r_getR X dX8_appendText_53 f_X8_48 e30 ?_
    obtain ⟨x31, e32, E⟩ := gb_some E
    refine r_getR X dX8_appendText_56 f_X8_66 e32 ?_
    refine r_iload_n X 1 dX8_appendText_59 rfl rfl ?_
    refine r_bipush X (v := 8) dX8_appendText_60 (by decide) ?_
    refine r_iushr X dX8_appendText_62 ?_
    obtain ⟨u36, e37, E⟩ := gb_some E
    obtain ⟨r33, g34, e35, E⟩ := cb_some E
    refine r_callV0 X hl0 (ci := 7) dX8_appendText_63 y_X7_put m_X8_96 rfl rfl e37 (t_x7_put (l := l) (G := G) e35) rfl rfl (Nat.le_of_ble_eq_true rfl) (by decide) ?_
    refine r_aload_n X 0 dX8_appendText_66 rfl rfl ?_
    obtain ⟨x38, e39, E⟩ := gb_some E
    refine r_getR X dX8_appendText_67 f_X8_48 e39 ?_
    obtain ⟨x40, e41, E⟩ := gb_some E
    refine r_getR X dX8_appendText_70 f_X8_66 e41 ?_
    refine r_iload_n X 1 dX8_appendText_73 rfl rfl ?_
    obtain ⟨u45, e46, E⟩ := gb_some E
    obtain ⟨r42, g43, e44, E⟩ := cb_some E
    refine r_callV0 X hl0 (ci := 7) dX8_appendText_74 y_X7_put m_X8_96 rfl rfl e46 (t_x7_put (l := l) (G := G) e44) rfl rfl (Nat.le_of_ble_eq_true rfl) (by decide) ?_
    refine r_aload_n X 0 dX8_appendText_77 rfl rfl ?_
    obtain ⟨x47, e48, E⟩ := gb_some E
    refine r_getR X dX8_appendText_78 f_X8_48 e48 ?_
    obtain ⟨x49, e50, E⟩ := gb_some E
    refine r_getR X dX8_appendText_81 f_X8_66 e50 ?_
    obtain ⟨x51, e52, E⟩ := gb_some E
    refine r_getI X dX8_appendText_84 f_X8_82 e52 ?_
    cases E
    exact r_ret (r_iret X hr dX8_appendText_87 (by decide) (by decide))
  · rw [if_pos c10] at E
    cases E
    exact r_throw X hl0 hst hnt th_X8_94 k_X8_90 (List.mem_of_getElem? (i := 1) rfl) dX8_appendText_14 dX8_appendText_17 dX8_appendText_18 dX8_appendText_20 dX8_appendText_23 ⟨by decide, Nat.le_of_ble_eq_true rfl⟩ (by decide) (by decide)
theorem t_x8_appendText {l : Launch} (hst : l.stackTraces = false) {G : GG} {p : Nat} {b0 : Int32} {g : AH} {o : (Int32 ⊕ String)} {g1 : AH} (E : x8_appendText p b0 g = some (o, g1)) : CtX l G yX8_appendText cX8_appendText 2 (some .int) ⟨7, 1, 6, 200⟩ [.ref p, .int b0] g (ovI o) g1 :=
  ctX_of (L0 := [(0, .ref p), (1, .int b0)]) y_X8_appendText rfl (Nat.le_of_ble_eq_true rfl) fun M hl0 X hr hnm hnt => t_x8_appendText_b X hl0 hr hnm hnt hst E
set_option maxHeartbeats 4000000 in
set_option maxRecDepth 100000 in
theorem t_x7_kindOf_j48 {l : Launch} {G : GG} {M : MC} (X : CX M G cX7_kindOf 1 RX7 ⟨1, 0, 0, 60⟩) (hl0 : M.2.1 = l) (hr : (mM M).sig.returnType = (some .int)) (hnm : (mM M).name = yX7_kindOf.name)  {g : AH} {r : Int32} {g1 : AH} (E : x7_kindOf_j48  g = some (r, g1)) : WW M G 1 (RQ M G (some (.int r)) g1 0 0) 0 0 g 48 [] [] := by
  unfold x7_kindOf_j48 at E
  refine r_iconst X (v := 4) dX7_kindOf_48 (by decide) ?_
  refine r_goto X 53 dX7_kindOf_49 (by decide) ?_
  cases E
  exact r_iret X hr dX7_kindOf_53 (by decide) (by decide)
set_option maxHeartbeats 4000000 in
set_option maxRecDepth 100000 in
theorem t_x7_kindOf_j28 {l : Launch} {G : GG} {M : MC} (X : CX M G cX7_kindOf 1 RX7 ⟨1, 0, 0, 60⟩) (hl0 : M.2.1 = l) (hr : (mM M).sig.returnType = (some .int)) (hnm : (mM M).name = yX7_kindOf.name) {a0 : Int32} {g : AH} {r : Int32} {g1 : AH} (E : x7_kindOf_j28 a0 g = some (r, g1)) : WW M G 1 (RQ M G (some (.int r)) g1 0 0) 0 0 g 28 [(0, .int a0)] [] := by
  unfold x7_kindOf_j28 at E
  refine r_iload_n X 0 dX7_kindOf_28 rfl rfl ?_
  refine r_bipush X (v := 59) dX7_kindOf_29 (by decide) ?_
  refine r_icmp_ne X 36 dX7_kindOf_31 (by decide) (fun c1 => ?_) (fun c1 => ?_)
  · rw [if_neg c1] at E
    refine r_iload_n X 0 dX7_kindOf_36 rfl rfl ?_
    refine r_bipush X (v := 32) dX7_kindOf_37 (by decide) ?_
    refine r_icmp_eq X 48 dX7_kindOf_39 (by decide) (fun c2 => ?_) (fun c2 => ?_)
    · rw [if_pos c2] at E
      exact r_pick (by rfl : lpick [(0, .int a0)] [] = _) (t_x7_kindOf_j48 X hl0 hr hnm E)
    · rw [if_neg c2] at E
      refine r_iload_n X 0 dX7_kindOf_42 rfl rfl ?_
      refine r_bipush X (v := 10) dX7_kindOf_43 (by decide) ?_
      refine r_icmp_ne X 52 dX7_kindOf_45 (by decide) (fun c3 => ?_) (fun c3 => ?_)
      · rw [if_neg c3] at E
        refine r_iconst X (v := 5) dX7_kindOf_52 (by decide) ?_
        cases E
        exact r_iret X hr dX7_kindOf_53 (by decide) (by decide)
      · rw [if_pos c3] at E
        exact r_pick (by rfl : lpick [(0, .int a0)] [] = _) (t_x7_kindOf_j48 X hl0 hr hnm E)
  · rw [if_pos c1] at E
    refine r_iconst X (v := 3) dX7_kindOf_34 (by decide) ?_
    cases E
    exact r_iret X hr dX7_kindOf_35 (by decide) (by decide)
set_option maxHeartbeats 4000000 in
set_option maxRecDepth 100000 in
theorem t_x7_kindOf_j14 {l : Launch} {G : GG} {M : MC} (X : CX M G cX7_kindOf 1 RX7 ⟨1, 0, 0, 60⟩) (hl0 : M.2.1 = l) (hr : (mM M).sig.returnType = (some .int)) (hnm : (mM M).name = yX7_kindOf.name) {a0 : Int32} {g : AH} {r : Int32} {g1 : AH} (E : x7_kindOf_j14 a0 g = some (r, g1)) : WW M G 1 (RQ M G (some (.int r)) g1 0 0) 0 0 g 14 [(0, .int a0)] [] := by
  unfold x7_kindOf_j14 at E
  refine r_bipush X (v := 48) dX7_kindOf_14 (by decide) ?_
  refine r_iload_n X 0 dX7_kindOf_16 rfl rfl ?_
  refine r_icmp_gt X 28 dX7_kindOf_17 (by decide) (fun c1 => ?_) (fun c1 => ?_)
  · rw [if_pos c1] at E
    exact r_pick (by rfl : lpick [(0, .int a0)] [0] = _) (t_x7_kindOf_j28 X hl0 hr hnm E)
  · rw [if_neg c1] at E
    refine r_iload_n X 0 dX7_kindOf_20 rfl rfl ?_
    refine r_bipush X (v := 57) dX7_kindOf_21 (by decide) ?_
    refine r_icmp_gt X 28 dX7_kindOf_23 (by decide) (fun c2 => ?_) (fun c2 => ?_)
    · rw [if_pos c2] at E
      exact r_pick (by rfl : lpick [(0, .int a0)] [0] = _) (t_x7_kindOf_j28 X hl0 hr hnm E)
    · rw [if_neg c2] at E
      refine r_iconst X (v := 2) dX7_kindOf_26 (by decide) ?_
      cases E
      exact r_iret X hr dX7_kindOf_27 (by decide) (by decide)
set_option maxHeartbeats 4000000 in
set_option maxRecDepth 100000 in
theorem t_x7_kindOf_b {l : Launch} {G : GG} {M : MC} (X : CX M G cX7_kindOf 1 RX7 ⟨1, 0, 0, 60⟩) (hl0 : M.2.1 = l) (hr : (mM M).sig.returnType = (some .int)) (hnm : (mM M).name = yX7_kindOf.name) {b0 : Int32} {g : AH} {r : Int32} {g1 : AH} (E : x7_kindOf b0 g = some (r, g1)) : WW M G 1 (RQ M G (some (.int r)) g1 0 0) 0 0 g 0 [(0, .int b0)] [] := by
  unfold x7_kindOf at E
  refine r_bipush X (v := 97) dX7_kindOf_0 (by decide) ?_
  refine r_iload_n X 0 dX7_kindOf_2 rfl rfl ?_
  refine r_icmp_gt X 14 dX7_kindOf_3 (by decide) (fun c1 => ?_) (fun c1 => ?_)
  · rw [if_pos c1] at E
    exact r_pick (by rfl : lpick [(0, .int b0)] [0] = _) (t_x7_kindOf_j14 X hl0 hr hnm E)
  · rw [if_neg c1] at E
    refine r_iload_n X 0 dX7_kindOf_6 rfl rfl ?_
    refine r_bipush X (v := 122) dX7_kindOf_7 (by decide) ?_
    refine r_icmp_gt X 14 dX7_kindOf_9 (by decide) (fun c2 => ?_) (fun c2 => ?_)
    · rw [if_pos c2] at E
      exact r_pick (by rfl : lpick [(0, .int b0)] [0] = _) (t_x7_kindOf_j14 X hl0 hr hnm E)
    · rw [if_neg c2] at E
      refine r_iconst X (v := 1) dX7_kindOf_12 (by decide) ?_
      cases E
      exact r_iret X hr dX7_kindOf_13 (by decide) (by decide)
theorem t_x7_kindOf {l : Launch} {G : GG} {b0 : Int32} {g : AH} {r : Int32} {g1 : AH} (E : x7_kindOf b0 g = some (r, g1)) : Ct l G yX7_kindOf cX7_kindOf 1 (some .int) ⟨1, 0, 0, 60⟩ [.int b0] g (some (.int r)) g1 :=
  ct_of (L0 := [(0, .int b0)]) y_X7_kindOf rfl (Nat.le_of_ble_eq_true rfl) fun M hl0 X hr hnm => t_x7_kindOf_b X hl0 hr hnm E
set_option maxHeartbeats 4000000 in
set_option maxRecDepth 100000 in
theorem t_x7_readNext_l8 {l : Launch} {G : GG} {M : MC} (X : CX M G cX7_readNext 1 RX7 ⟨2, 0, 0, 80⟩) (hl0 : M.2.1 = l) (hr : (mM M).sig.returnType = none) (hnm : (mM M).name = yX7_readNext.name) {Q : State → Prop} {kc ks : Nat} {s9 : ((Unit) ⊕ (Unit))} {g1 : AH} {a0 : Nat} {s0 : Unit} (hc : ∀ s1, s9 = .inl s1 → WW M G 1 Q kc ks g1 8 [(0, .ref a0)] []) (hx : ∀ t, s9 = .inr t → WW M G 1 Q kc ks g1 48 [(0, .ref a0)] []) {g : AH} (E : x7_readNext_l8 a0 s0 g = some (s9, g1)) : WW M G 1 Q kc ks g 8 [(0, .ref a0)] [] := by
  unfold x7_readNext_l8 at E
  refine r_aload_n X 0 dX7_readNext_8 rfl rfl ?_
  obtain ⟨x1, e2, E⟩ := gb_some E
  refine r_getI X dX7_readNext_9 f_X7_42 e2 ?_
  refine r_aload_n X 0 dX7_readNext_12 rfl rfl ?_
  obtain ⟨x3, e4, E⟩ := gb_some E
  refine r_getI X dX7_readNext_13 f_X7_15 e4 ?_
  refine r_icmp_ge X 48 dX7_readNext_16 (by decide) (fun c5 => ?_) (fun c5 => ?_)
  · rw [if_pos c5] at E
    cases E
    exact r_pick (by rfl : lpick [(0, .ref a0)] [0] = _) (hx _ rfl)
  · rw [if_neg c5] at E
    refine r_aload_n X 0 dX7_readNext_19 rfl rfl ?_
    obtain ⟨x6, e7, E⟩ := gb_some E
    refine r_getR X dX7_readNext_20 f_X7_9 e7 ?_
    refine r_aload_n X 0 dX7_readNext_23 rfl rfl ?_
    obtain ⟨x8, e9, E⟩ := gb_some E
    refine r_getI X dX7_readNext_24 f_X7_42 e9 ?_
    obtain ⟨x10, e11, E⟩ := gb_some E
    refine r_iald X dX7_readNext_27 e11 ?_
    obtain ⟨r12, g13, e14, E⟩ := cb_some E
    refine r_callS0 X hl0 dX7_readNext_28 y_X7_kindOf m_X7_45 (t_x7_kindOf (l := l) (G := G) e14) rfl rfl (Nat.le_of_ble_eq_true rfl) (by decide) ?_
    refine r_iconst X (v := 4) dX7_readNext_31 (by decide) ?_
    refine r_icmp_ne X 48 dX7_readNext_32 (by decide) (fun c15 => ?_) (fun c15 => ?_)
    · rw [if_neg c15] at E
      cases E
      exact r_pick (by rfl : lpick [(0, .ref a0)] [0] = _) (hx _ rfl)
    · rw [if_pos c15] at E
      refine r_aload_n X 0 dX7_readNext_35 rfl rfl ?_
      refine r_dup X dX7_readNext_36 rfl ?_
      obtain ⟨x16, e17, E⟩ := gb_some E
      refine r_getI X dX7_readNext_37 f_X7_42 e17 ?_
      refine r_iconst X (v := 1) dX7_readNext_40 (by decide) ?_
      refine r_iadd X dX7_readNext_41 ?_
      obtain ⟨g18, e19, E⟩ := gb_some E
      refine r_put X dX7_readNext_42 f_X7_42 rfl rfl e19 ?_
      refine r_goto X 8 dX7_readNext_45 (by decide) ?_
      cases E
      exact r_pick (by rfl : lpick [(0, .ref a0)] [0] = _) (hc _ rfl)
set_option maxHeartbeats 4000000 in
theorem t_x7_readNext_l8_r {l : Launch} {G : GG} {M : MC} (X : CX M G cX7_readNext 1 RX7 ⟨2, 0, 0, 80⟩) (hl0 : M.2.1 = l) (hr : (mM M).sig.returnType = none) (hnm : (mM M).name = yX7_readNext.name) {Q : State → Prop} {kc ks : Nat} {a0 : Nat} : ∀ (n : Nat) (s0 : Unit) (g : AH) (t : (Unit)) (g1 : AH), loopX (x7_readNext_l8 a0) n s0 g = some (t, g1) → WW M G 1 Q kc ks g1 48 [(0, .ref a0)] [] → WW M G 1 Q kc ks g 8 [(0, .ref a0)] [] :=
  loop_cps (K := fun t g1 => WW M G 1 Q kc ks g1 48 [(0, .ref a0)] []) (fun _ s0 g => WW M G 1 Q kc ks g 8 [(0, .ref a0)] []) (fun n s0 g st g1 E hc hx => t_x7_readNext_l8 X hl0 hr hnm hc hx E)
set_option maxHeartbeats 4000000 in
set_option maxRecDepth 100000 in
theorem t_x7_readNext_l123 {l : Launch} {G : GG} {M : MC} (X : CX M G cX7_readNext 1 RX7 ⟨2, 0, 0, 80⟩) (hl0 : M.2.1 = l) (hr : (mM M).sig.returnType = none) (hnm : (mM M).name = yX7_readNext.name) {Q : State → Prop} {kc ks : Nat} {s9 : ((Unit) ⊕ (Unit))} {g1 : AH} {a0 : Nat} {s0 : Unit} (hc : ∀ s1, s9 = .inl s1 → WW M G 1 Q kc ks g1 123 [(0, .ref a0)] []) (hx : ∀ t, s9 = .inr t → WW M G 1 Q kc ks g1 166 [] []) {g : AH} (E : x7_readNext_l123 a0 s0 g = some (s9, g1)) : WW M G 1 Q kc ks g 123 [(0, .ref a0)] [] := by
  unfold x7_readNext_l123 at E
  refine r_aload_n X 0 dX7_readNext_123 rfl rfl ?_
  obtain ⟨x1, e2, E⟩ := gb_some E
  refine r_getI X dX7_readNext_124 f_X7_36 e2 ?_
  refine r_aload_n X 0 dX7_readNext_127 rfl rfl ?_
  obtain ⟨x3, e4, E⟩ := gb_some E
  refine r_getI X dX7_readNext_128 f_X7_15 e4 ?_
  refine r_icmp_ge X 166 dX7_readNext_131 (by decide) (fun c5 => ?_) (fun c5 => ?_)
  · rw [if_pos c5] at E
    cases E
    exact r_pick (by rfl : lpick [(0, .ref a0)] [] = _) (hx _ rfl)
  · rw [if_neg c5] at E
    refine r_aload_n X 0 dX7_readNext_134 rfl rfl ?_
    obtain ⟨x6, e7, E⟩ := gb_some E
    refine r_getR X dX7_readNext_135 f_X7_9 e7 ?_
    refine r_aload_n X 0 dX7_readNext_138 rfl rfl ?_
    obtain ⟨x8, e9, E⟩ := gb_some E
    refine r_getI X dX7_readNext_139 f_X7_36 e9 ?_
    obtain ⟨x10, e11, E⟩ := gb_some E
    refine r_iald X dX7_readNext_142 e11 ?_
    obtain ⟨r12, g13, e14, E⟩ := cb_some E
    refine r_callS0 X hl0 dX7_readNext_143 y_X7_kindOf m_X7_45 (t_x7_kindOf (l := l) (G := G) e14) rfl rfl (Nat.le_of_ble_eq_true rfl) (by decide) ?_
    refine r_aload_n X 0 dX7_readNext_146 rfl rfl ?_
    obtain ⟨x15, e16, E⟩ := gb_some E
    refine r_getI X dX7_readNext_147 f_X7_49 e16 ?_
    refine r_icmp_ne X 166 dX7_readNext_150 (by decide) (fun c17 => ?_) (fun c17 => ?_)
    · rw [if_neg c17] at E
      cases E
      exact r_pick (by rfl : lpick [(0, .ref a0)] [] = _) (hx _ rfl)
    · rw [if_pos c17] at E
      refine r_aload_n X 0 dX7_readNext_153 rfl rfl ?_
      refine r_dup X dX7_readNext_154 rfl ?_
      obtain ⟨x18, e19, E⟩ := gb_some E
      refine r_getI X dX7_readNext_155 f_X7_36 e19 ?_
      refine r_iconst X (v := 1) dX7_readNext_158 (by decide) ?_
      refine r_iadd X dX7_readNext_159 ?_
      obtain ⟨g20, e21, E⟩ := gb_some E
      refine r_put X dX7_readNext_160 f_X7_36 rfl rfl e21 ?_
      refine r_goto X 123 dX7_readNext_163 (by decide) ?_
      cases E
      exact r_pick (by rfl : lpick [(0, .ref a0)] [0] = _) (hc _ rfl)
set_option maxHeartbeats 4000000 in
theorem t_x7_readNext_l123_r {l : Launch} {G : GG} {M : MC} (X : CX M G cX7_readNext 1 RX7 ⟨2, 0, 0, 80⟩) (hl0 : M.2.1 = l) (hr : (mM M).sig.returnType = none) (hnm : (mM M).name = yX7_readNext.name) {Q : State → Prop} {kc ks : Nat} {a0 : Nat} : ∀ (n : Nat) (s0 : Unit) (g : AH) (t : (Unit)) (g1 : AH), loopX (x7_readNext_l123 a0) n s0 g = some (t, g1) → WW M G 1 Q kc ks g1 166 [] [] → WW M G 1 Q kc ks g 123 [(0, .ref a0)] [] :=
  loop_cps (K := fun t g1 => WW M G 1 Q kc ks g1 166 [] []) (fun _ s0 g => WW M G 1 Q kc ks g 123 [(0, .ref a0)] []) (fun n s0 g st g1 E hc hx => t_x7_readNext_l123 X hl0 hr hnm hc hx E)
set_option maxHeartbeats 4000000 in
set_option maxRecDepth 100000 in
theorem t_x7_readNext_j104 {l : Launch} {G : GG} {M : MC} (X : CX M G cX7_readNext 1 RX7 ⟨2, 0, 0, 80⟩) (hl0 : M.2.1 = l) (hr : (mM M).sig.returnType = none) (hnm : (mM M).name = yX7_readNext.name) {a0 : Nat} {s0 : Int32} {s1 : Nat} {g : AH} {r : Unit} {g1 : AH} (E : x7_readNext_j104 a0 s0 s1 g = some (r, g1)) : WW M G 1 (RQ M G none g1 0 0) 0 0 g 104 [(0, .ref a0)] [.int s0, .ref s1] := by
  unfold x7_readNext_j104 at E
  obtain ⟨g1, e2, E⟩ := gb_some E
  refine r_put X dX7_readNext_104 f_X7_36 rfl rfl e2 ?_
  refine r_aload_n X 0 dX7_readNext_107 rfl rfl ?_
  obtain ⟨x3, e4, E⟩ := gb_some E
  refine r_getI X dX7_readNext_108 f_X7_49 e4 ?_
  refine r_iconst X (v := 1) dX7_readNext_111 (by decide) ?_
  refine r_icmp_eq X 123 dX7_readNext_112 (by decide) (fun c5 => ?_) (fun c5 => ?_)
  · rw [if_pos c5] at E
    obtain ⟨t6, g7, e8, E⟩ := cb_some E
    refine r_pick (by rfl : lpick [(0, .ref a0)] [0] = _) (t_x7_readNext_l123_r X hl0 hr hnm _ _ _ _ _ e8 ?_)
    cases E
    exact r_vret X hr dX7_readNext_166 (by decide) (by decide)
  · rw [if_neg c5] at E
    refine r_aload_n X 0 dX7_readNext_115 rfl rfl ?_
    obtain ⟨x9, e10, E⟩ := gb_some E
    refine r_getI X dX7_readNext_116 f_X7_49 e10 ?_
    refine r_iconst X (v := 2) dX7_readNext_119 (by decide) ?_
    refine r_icmp_ne X 166 dX7_readNext_120 (by decide) (fun c11 => ?_) (fun c11 => ?_)
    · rw [if_neg c11] at E
      cases E
      exact r_vret X hr dX7_readNext_166 (by decide) (by decide)
    · rw [if_pos c11] at E
      obtain ⟨t12, g13, e14, E⟩ := cb_some E
      refine r_pick (by rfl : lpick [(0, .ref a0)] [0] = _) (t_x7_readNext_l123_r X hl0 hr hnm _ _ _ _ _ e14 ?_)
      cases E
      exact r_vret X hr dX7_readNext_166 (by decide) (by decide)
set_option maxHeartbeats 4000000 in
set_option maxRecDepth 100000 in
theorem t_x7_readNext_j76 {l : Launch} {G : GG} {M : MC} (X : CX M G cX7_readNext 1 RX7 ⟨2, 0, 0, 80⟩) (hl0 : M.2.1 = l) (hr : (mM M).sig.returnType = none) (hnm : (mM M).name = yX7_readNext.name) {a0 : Nat} {s0 : Int32} {s1 : Nat} {g : AH} {r : Unit} {g1 : AH} (E : x7_readNext_j76 a0 s0 s1 g = some (r, g1)) : WW M G 1 (RQ M G none g1 0 0) 0 0 g 76 [(0, .ref a0)] [.int s0, .ref s1] := by
  unfold x7_readNext_j76 at E
  obtain ⟨g1, e2, E⟩ := gb_some E
  refine r_put X dX7_readNext_76 f_X7_49 rfl rfl e2 ?_
  refine r_aload_n X 0 dX7_readNext_79 rfl rfl ?_
  refine r_aload_n X 0 dX7_readNext_80 rfl rfl ?_
  obtain ⟨x3, e4, E⟩ := gb_some E
  refine r_getI X dX7_readNext_81 f_X7_42 e4 ?_
  refine r_aload_n X 0 dX7_readNext_84 rfl rfl ?_
  obtain ⟨x5, e6, E⟩ := gb_some E
  refine r_getI X dX7_readNext_85 f_X7_15 e6 ?_
  refine r_icmp_ge X 100 dX7_readNext_88 (by decide) (fun c7 => ?_) (fun c7 => ?_)
  · rw [if_pos c7] at E
    refine r_aload_n X 0 dX7_readNext_100 rfl rfl ?_
    obtain ⟨x8, e9, E⟩ := gb_some E
    refine r_getI X dX7_readNext_101 f_X7_42 e9 ?_
    exact r_pick (by rfl : lpick [(0, .ref a0)] [0] = _) (t_x7_readNext_j104 X hl0 hr hnm E)
  · rw [if_neg c7] at E
    refine r_aload_n X 0 dX7_readNext_91 rfl rfl ?_
    obtain ⟨x10, e11, E⟩ := gb_some E
    refine r_getI X dX7_readNext_92 f_X7_42 e11 ?_
    refine r_iconst X (v := 1) dX7_readNext_95 (by decide) ?_
    refine r_iadd X dX7_readNext_96 ?_
    refine r_goto X 104 dX7_readNext_97 (by decide) ?_
    exact r_pick (by rfl : lpick [(0, .ref a0)] [0] = _) (t_x7_readNext_j104 X hl0 hr hnm E)
set_option maxHeartbeats 4000000 in
set_option maxRecDepth 100000 in
theorem t_x7_readNext_j48 {l : Launch} {G : GG} {M : MC} (X : CX M G cX7_readNext 1 RX7 ⟨2, 0, 0, 80⟩) (hl0 : M.2.1 = l) (hr : (mM M).sig.returnType = none) (hnm : (mM M).name = yX7_readNext.name) {a0 : Nat} {g : AH} {r : Unit} {g1 : AH} (E : x7_readNext_j48 a0 g = some (r, g1)) : WW M G 1 (RQ M G none g1 0 0) 0 0 g 48 [(0, .ref a0)] [] := by
  unfold x7_readNext_j48 at E
  refine r_aload_n X 0 dX7_readNext_48 rfl rfl ?_
  refine r_aload_n X 0 dX7_readNext_49 rfl rfl ?_
  obtain ⟨x1, e2, E⟩ := gb_some E
  refine r_getI X dX7_readNext_50 f_X7_42 e2 ?_
  refine r_aload_n X 0 dX7_readNext_53 rfl rfl ?_
  obtain ⟨x3, e4, E⟩ := gb_some E
  refine r_getI X dX7_readNext_54 f_X7_15 e4 ?_
  refine r_icmp_ge X 75 dX7_readNext_57 (by decide) (fun c5 => ?_) (fun c5 => ?_)
  · rw [if_pos c5] at E
    refine r_iconst X (v := 0) dX7_readNext_75 (by decide) ?_
    exact r_pick (by rfl : lpick [(0, .ref a0)] [0] = _) (t_x7_readNext_j76 X hl0 hr hnm E)
  · rw [if_neg c5] at E
    refine r_aload_n X 0 dX7_readNext_60 rfl rfl ?_
    obtain ⟨x6, e7, E⟩ := gb_some E
    refine r_getR X dX7_readNext_61 f_X7_9 e7 ?_
    refine r_aload_n X 0 dX7_readNext_64 rfl rfl ?_
    obtain ⟨x8, e9, E⟩ := gb_some E
    refine r_getI X dX7_readNext_65 f_X7_42 e9 ?_
    obtain ⟨x10, e11, E⟩ := gb_some E
    refine r_iald X dX7_readNext_68 e11 ?_
    obtain ⟨r12, g13, e14, E⟩ := cb_some E
    refine r_callS0 X hl0 dX7_readNext_69 y_X7_kindOf m_X7_45 (t_x7_kindOf (l := l) (G := G) e14) rfl rfl (Nat.le_of_ble_eq_true rfl) (by decide) ?_
    refine r_goto X 76 dX7_readNext_72 (by decide) ?_
    exact r_pick (by rfl : lpick [(0, .ref a0)] [0] = _) (t_x7_readNext_j76 X hl0 hr hnm E)
set_option maxHeartbeats 4000000 in
set_option maxRecDepth 100000 in
theorem t_x7_readNext_b {l : Launch} {G : GG} {M : MC} (X : CX M G cX7_readNext 1 RX7 ⟨2, 0, 0, 80⟩) (hl0 : M.2.1 = l) (hr : (mM M).sig.returnType = none) (hnm : (mM M).name = yX7_readNext.name) {p : Nat} {g : AH} {r : Unit} {g1 : AH} (E : x7_readNext p g = some (r, g1)) : WW M G 1 (RQ M G none g1 0 0) 0 0 g 0 [(0, .ref p)] [] := by
  unfold x7_readNext at E
  refine r_aload_n X 0 dX7_readNext_0 rfl rfl ?_
  refine r_aload_n X 0 dX7_readNext_1 rfl rfl ?_
  obtain ⟨x1, e2, E⟩ := gb_some E
  refine r_getI X dX7_readNext_2 f_X7_36 e2 ?_
  obtain ⟨g3, e4, E⟩ := gb_some E
  refine r_put X dX7_readNext_5 f_X7_42 rfl rfl e4 ?_
  obtain ⟨t5, g6, e7, E⟩ := cb_some E
  refine r_pick (by rfl : lpick [(0, .ref p)] [0] = _) (t_x7_readNext_l8_r X hl0 hr hnm _ _ _ _ _ e7 ?_)
  exact r_pick (by rfl : lpick [(0, .ref p)] [0] = _) (t_x7_readNext_j48 X hl0 hr hnm E)
theorem t_x7_readNext {l : Launch} {G : GG} {p : Nat} {g : AH} {r : Unit} {g1 : AH} (E : x7_readNext p g = some (r, g1)) : Ct l G yX7_readNext cX7_readNext 1 none ⟨2, 0, 0, 80⟩ [.ref p] g none g1 :=
  ct_of (L0 := [(0, .ref p)]) y_X7_readNext rfl (Nat.le_of_ble_eq_true rfl) fun M hl0 X hr hnm => t_x7_readNext_b X hl0 hr hnm E
set_option maxHeartbeats 4000000 in
set_option maxRecDepth 100000 in
theorem t_x7_readFirst_b {l : Launch} {G : GG} {M : MC} (X : CX M G cX7_readFirst 1 RX7 ⟨3, 0, 0, 100⟩) (hl0 : M.2.1 = l) (hr : (mM M).sig.returnType = none) (hnm : (mM M).name = yX7_readFirst.name) {p : Nat} {g : AH} {r : Unit} {g1 : AH} (E : x7_readFirst p g = some (r, g1)) : WW M G 1 (RQ M G none g1 0 0) 0 0 g 0 [(0, .ref p)] [] := by
  unfold x7_readFirst at E
  refine r_aload_n X 0 dX7_readFirst_0 rfl rfl ?_
  refine r_iconst X (v := 0) dX7_readFirst_1 (by decide) ?_
  obtain ⟨g1, e2, E⟩ := gb_some E
  refine r_put X dX7_readFirst_2 f_X7_36 rfl rfl e2 ?_
  refine r_aload_n X 0 dX7_readFirst_5 rfl rfl ?_
  obtain ⟨u6, e7, E⟩ := gb_some E
  obtain ⟨r3, g4, e5, E⟩ := cb_some E
  refine r_callV0 X hl0 (ci := 7) dX7_readFirst_6 y_X7_readNext m_X7_39 rfl rfl e7 (t_x7_readNext (l := l) (G := G) e5) rfl rfl (Nat.le_of_ble_eq_true rfl) (by decide) ?_
  cases E
  exact r_vret X hr dX7_readFirst_9 (by decide) (by decide)
theorem t_x7_readFirst {l : Launch} {G : GG} {p : Nat} {g : AH} {r : Unit} {g1 : AH} (E : x7_readFirst p g = some (r, g1)) : Ct l G yX7_readFirst cX7_readFirst 1 none ⟨3, 0, 0, 100⟩ [.ref p] g none g1 :=
  ct_of (L0 := [(0, .ref p)]) y_X7_readFirst rfl (Nat.le_of_ble_eq_true rfl) fun M hl0 X hr hnm => t_x7_readFirst_b X hl0 hr hnm E
set_option maxHeartbeats 4000000 in
set_option maxRecDepth 100000 in
theorem t_x0_begin_b {l : Launch} {G : GG} {M : MC} (X : CX M G cX0_begin 1 RX0 ⟨4, 0, 0, 120⟩) (hl0 : M.2.1 = l) (hr : (mM M).sig.returnType = none) (hnm : (mM M).name = yX0_begin.name) {p : Nat} {g : AH} {r : Unit} {g1 : AH} (E : x0_begin p g = some (r, g1)) : WW M G 1 (RQ M G none g1 0 0) 0 0 g 0 [(0, .ref p)] [] := by
  unfold x0_begin at E
  refine r_aload_n X 0 dX0_begin_0 rfl rfl ?_
  refine r_iconst X (v := 0) dX0_begin_1 (by decide) ?_
  obtain ⟨g1, e2, E⟩ := gb_some E
  refine r_put X dX0_begin_2 f_X0_18 rfl rfl e2 ?_
  refine r_aload_n X 0 dX0_begin_5 rfl rfl ?_
  refine r_iconst X (v := (-1)) dX0_begin_6 (by decide) ?_
  obtain ⟨g3, e4, E⟩ := gb_some E
  refine r_put X dX0_begin_7 f_X0_22 rfl rfl e4 ?_
  refine r_aload_n X 0 dX0_begin_10 rfl rfl ?_
  obtain ⟨x5, e6, E⟩ := gb_some E
  refine r_getR X dX0_begin_11 f_X0_12 e6 ?_
  obtain ⟨u10, e11, E⟩ := gb_some E
  obtain ⟨r7, g8, e9, E⟩ := cb_some E
  refine r_callV0 X hl0 (ci := 7) dX0_begin_14 y_X7_readFirst m_X0_49 rfl rfl e11 (t_x7_readFirst (l := l) (G := G) e9) rfl rfl (Nat.le_of_ble_eq_true rfl) (by decide) ?_
  cases E
  exact r_vret X hr dX0_begin_17 (by decide) (by decide)
theorem t_x0_begin {l : Launch} {G : GG} {p : Nat} {g : AH} {r : Unit} {g1 : AH} (E : x0_begin p g = some (r, g1)) : Ct l G yX0_begin cX0_begin 1 none ⟨4, 0, 0, 120⟩ [.ref p] g none g1 :=
  ct_of (L0 := [(0, .ref p)]) y_X0_begin rfl (Nat.le_of_ble_eq_true rfl) fun M hl0 X hr hnm => t_x0_begin_b X hl0 hr hnm E
set_option maxHeartbeats 4000000 in
set_option maxRecDepth 100000 in
theorem t_x7_isWord_l28 {l : Launch} {G : GG} {M : MC} (X : CX M G cX7_isWord 3 RX7 ⟨8, 0, 0, 242⟩) (hl0 : M.2.1 = l) (hr : (mM M).sig.returnType = (some .boolean)) (hnm : (mM M).name = yX7_isWord.name) {Q : State → Prop} {kc ks : Nat} {s9 : ((Int32) ⊕ ((Unit) ⊕ Int32))} {g1 : AH} {a0 : Nat} {a1 : Nat} {s0 : Int32} (hc : ∀ s1, s9 = .inl s1 → WW M G 3 Q kc ks g1 28 [(0, .ref a0), (1, .ref (G.2.2.1 a1)), (2, .int s1)] []) (hx : ∀ t, s9 = .inr t → Sum.elim (fun t1 => WW M G 3 Q kc ks g1 63 [] []) (fun t2 => ∃ mc ms : Nat, kc ≤ mc ∧ ks ≤ ms ∧ Q = RQ M G (some (.int t2)) g1 mc ms) t) {g : AH} (E : x7_isWord_l28 a0 a1 s0 g = some (s9, g1)) : WW M G 3 Q kc ks g 28 [(0, .ref a0), (1, .ref (G.2.2.1 a1)), (2, .int s0)] [] := by
  unfold x7_isWord_l28 at E
  refine r_iload_n X 2 dX7_isWord_28 rfl rfl ?_
  refine r_aload_n X 1 dX7_isWord_29 rfl rfl ?_
  obtain ⟨x1, e2, E⟩ := gb_some E
  refine r_strLen X hl0 dX7_isWord_30 m_X7_23 e2 (Nat.le_of_ble_eq_true rfl) (by decide) ?_
  refine r_icmp_ge X 63 dX7_isWord_33 (by decide) (fun c3 => ?_) (fun c3 => ?_)
  · rw [if_pos c3] at E
    cases E
    exact r_pick (by rfl : lpick [(0, .ref a0), (1, .ref (G.2.2.1 a1)), (2, .int s0)] [] = _) (hx _ rfl)
  · rw [if_neg c3] at E
    refine r_aload_n X 0 dX7_isWord_36 rfl rfl ?_
    obtain ⟨x4, e5, E⟩ := gb_some E
    refine r_getR X dX7_isWord_37 f_X7_9 e5 ?_
    refine r_aload_n X 0 dX7_isWord_40 rfl rfl ?_
    obtain ⟨x6, e7, E⟩ := gb_some E
    refine r_getI X dX7_isWord_41 f_X7_42 e7 ?_
    refine r_iload_n X 2 dX7_isWord_44 rfl rfl ?_
    refine r_iadd X dX7_isWord_45 ?_
    obtain ⟨x8, e9, E⟩ := gb_some E
    refine r_iald X dX7_isWord_46 e9 ?_
    refine r_aload_n X 1 dX7_isWord_47 rfl rfl ?_
    refine r_iload_n X 2 dX7_isWord_48 rfl rfl ?_
    obtain ⟨x10, e11, E⟩ := gb_some E
    refine r_strAt X hl0 dX7_isWord_49 m_X7_28 e11 (Nat.le_of_ble_eq_true rfl) (by decide) ?_
    refine r_icmp_eq X 57 dX7_isWord_52 (by decide) (fun c12 => ?_) (fun c12 => ?_)
    · rw [if_pos c12] at E
      refine r_iinc X (v := (s0 + 1)) (L1 := [(2, .int (s0 + 1)), (0, .ref a0), (1, .ref (G.2.2.1 a1))]) dX7_isWord_57 rfl rfl (by decide) rfl ?_
      refine r_goto X 28 dX7_isWord_60 (by decide) ?_
      cases E
      exact r_pick (by rfl : lpick [(2, .int (s0 + 1)), (0, .ref a0), (1, .ref (G.2.2.1 a1))] [1, 2, 0] = _) (hc _ rfl)
    · rw [if_neg c12] at E
      refine r_iconst X (v := 0) dX7_isWord_55 (by decide) ?_
      cases E
      obtain ⟨mc9, ms9, h91, h92, rfl⟩ := hx _ rfl
      exact r_zret X hr (Or.inl rfl) dX7_isWord_56 h91 h92
set_option maxHeartbeats 4000000 in
theorem t_x7_isWord_l28_r {l : Launch} {G : GG} {M : MC} (X : CX M G cX7_isWord 3 RX7 ⟨8, 0, 0, 242⟩) (hl0 : M.2.1 = l) (hr : (mM M).sig.returnType = (some .boolean)) (hnm : (mM M).name = yX7_isWord.name) {Q : State → Prop} {kc ks : Nat} {a0 : Nat} {a1 : Nat} : ∀ (n : Nat) (s0 : Int32) (g : AH) (t : ((Unit) ⊕ Int32)) (g1 : AH), loopX (x7_isWord_l28 a0 a1) n s0 g = some (t, g1) → Sum.elim (fun t1 => WW M G 3 Q kc ks g1 63 [] []) (fun t2 => ∃ mc ms : Nat, kc ≤ mc ∧ ks ≤ ms ∧ Q = RQ M G (some (.int t2)) g1 mc ms) t → WW M G 3 Q kc ks g 28 [(0, .ref a0), (1, .ref (G.2.2.1 a1)), (2, .int s0)] [] :=
  loop_cps (K := fun t g1 => Sum.elim (fun t1 => WW M G 3 Q kc ks g1 63 [] []) (fun t2 => ∃ mc ms : Nat, kc ≤ mc ∧ ks ≤ ms ∧ Q = RQ M G (some (.int t2)) g1 mc ms) t) (fun _ s0 g => WW M G 3 Q kc ks g 28 [(0, .ref a0), (1, .ref (G.2.2.1 a1)), (2, .int s0)] []) (fun n s0 g st g1 E hc hx => t_x7_isWord_l28 X hl0 hr hnm hc hx E)
set_option maxHeartbeats 4000000 in
set_option maxRecDepth 100000 in
theorem t_x7_isWord_b {l : Launch} {G : GG} {M : MC} (X : CX M G cX7_isWord 3 RX7 ⟨8, 0, 0, 242⟩) (hl0 : M.2.1 = l) (hr : (mM M).sig.returnType = (some .boolean)) (hnm : (mM M).name = yX7_isWord.name) {p : Nat} {b0 : Nat} {g : AH} {r : Int32} {g1 : AH} (E : x7_isWord p b0 g = some (r, g1)) : WW M G 3 (RQ M G (some (.int r)) g1 0 0) 0 0 g 0 [(0, .ref p), (1, .ref (G.2.2.1 b0))] [] := by
  unfold x7_isWord at E
  refine r_aload_n X 0 dX7_isWord_0 rfl rfl ?_
  obtain ⟨x1, e2, E⟩ := gb_some E
  refine r_getI X dX7_isWord_1 f_X7_49 e2 ?_
  refine r_iconst X (v := 1) dX7_isWord_4 (by decide) ?_
  refine r_icmp_ne X 24 dX7_isWord_5 (by decide) (fun c3 => ?_) (fun c3 => ?_)
  · rw [if_neg c3] at E
    refine r_iconst X (v := 0) dX7_isWord_24 (by decide) ?_
    cases E
    exact r_zret X hr (Or.inl rfl) dX7_isWord_25 (by decide) (by decide)
  · rw [if_pos c3] at E
    refine r_aload_n X 0 dX7_isWord_8 rfl rfl ?_
    obtain ⟨x4, e5, E⟩ := gb_some E
    refine r_getI X dX7_isWord_9 f_X7_36 e5 ?_
    refine r_aload_n X 0 dX7_isWord_12 rfl rfl ?_
    obtain ⟨x6, e7, E⟩ := gb_some E
    refine r_getI X dX7_isWord_13 f_X7_42 e7 ?_
    refine r_isub X dX7_isWord_16 ?_
    refine r_aload_n X 1 dX7_isWord_17 rfl rfl ?_
    obtain ⟨x8, e9, E⟩ := gb_some E
    refine r_strLen X hl0 dX7_isWord_18 m_X7_23 e9 (Nat.le_of_ble_eq_true rfl) (by decide) ?_
    refine r_icmp_eq X 26 dX7_isWord_21 (by decide) (fun c10 => ?_) (fun c10 => ?_)
    · rw [if_pos c10] at E
      refine r_iconst X (v := 0) dX7_isWord_26 (by decide) ?_
      refine r_istore_n X 2 (L1 := [(2, .int 0), (0, .ref p), (1, .ref (G.2.2.1 b0))]) dX7_isWord_27 rfl (by decide) rfl ?_
      obtain ⟨t11, g12, e13, E⟩ := cb_some E
      rcases t11 with t14 | t15
      · rw [Sum.elim_inl] at E
        refine r_pick (by rfl : lpick [(2, .int 0), (0, .ref p), (1, .ref (G.2.2.1 b0))] [1, 2, 0] = _) (t_x7_isWord_l28_r X hl0 hr hnm _ _ _ _ _ e13 ?_)
        refine r_iconst X (v := 1) dX7_isWord_63 (by decide) ?_
        cases E
        exact r_zret X hr (Or.inr rfl) dX7_isWord_64 (by decide) (by decide)
      · rw [Sum.elim_inr] at E
        cases E
        exact r_pick (by rfl : lpick [(2, .int 0), (0, .ref p), (1, .ref (G.2.2.1 b0))] [1, 2, 0] = _) (t_x7_isWord_l28_r X hl0 hr hnm _ _ _ _ _ e13 ⟨_, _, by decide, by decide, rfl⟩)
    · rw [if_neg c10] at E
      refine r_iconst X (v := 0) dX7_isWord_24 (by decide) ?_
      cases E
      exact r_zret X hr (Or.inl rfl) dX7_isWord_25 (by decide) (by decide)
theorem t_x7_isWord {l : Launch} {G : GG} {p : Nat} {b0 : Nat} {g : AH} {r : Int32} {g1 : AH} (E : x7_isWord p b0 g = some (r, g1)) : Ct l G yX7_isWord cX7_isWord 3 (some .boolean) ⟨8, 0, 0, 242⟩ [.ref p, .ref (G.2.2.1 b0)] g (some (.int r)) g1 :=
  ct_of (L0 := [(0, .ref p), (1, .ref (G.2.2.1 b0))]) y_X7_isWord rfl (Nat.le_of_ble_eq_true rfl) fun M hl0 X hr hnm => t_x7_isWord_b X hl0 hr hnm E
set_option maxHeartbeats 4000000 in
set_option maxRecDepth 100000 in
theorem t_x0_fail_b {l : Launch} {G : GG} {M : MC} (X : CX M G cX0_fail 2 RX0 ⟨1, 0, 0, 60⟩) (hl0 : M.2.1 = l) (hr : (mM M).sig.returnType = (some .boolean)) (hnm : (mM M).name = yX0_fail.name) {p : Nat} {b0 : Int32} {g : AH} {r : Int32} {g1 : AH} (E : x0_fail p b0 g = some (r, g1)) : WW M G 2 (RQ M G (some (.int r)) g1 0 0) 0 0 g 0 [(0, .ref p), (1, .int b0)] [] := by
  unfold x0_fail at E
  refine r_aload_n X 0 dX0_fail_0 rfl rfl ?_
  refine r_iload_n X 1 dX0_fail_1 rfl rfl ?_
  obtain ⟨g1, e2, E⟩ := gb_some E
  refine r_put X dX0_fail_2 f_X0_18 rfl rfl e2 ?_
  refine r_aload_n X 0 dX0_fail_5 rfl rfl ?_
  refine r_aload_n X 0 dX0_fail_6 rfl rfl ?_
  obtain ⟨x3, e4, E⟩ := gb_some E
  refine r_getR X dX0_fail_7 f_X0_12 e4 ?_
  obtain ⟨x5, e6, E⟩ := gb_some E
  refine r_getI X dX0_fail_10 f_X0_52 e6 ?_
  obtain ⟨g7, e8, E⟩ := gb_some E
  refine r_put X dX0_fail_13 f_X0_22 rfl rfl e8 ?_
  refine r_iconst X (v := 0) dX0_fail_16 (by decide) ?_
  cases E
  exact r_zret X hr (Or.inl rfl) dX0_fail_17 (by decide) (by decide)
theorem t_x0_fail {l : Launch} {G : GG} {p : Nat} {b0 : Int32} {g : AH} {r : Int32} {g1 : AH} (E : x0_fail p b0 g = some (r, g1)) : Ct l G yX0_fail cX0_fail 2 (some .boolean) ⟨1, 0, 0, 60⟩ [.ref p, .int b0] g (some (.int r)) g1 :=
  ct_of (L0 := [(0, .ref p), (1, .int b0)]) y_X0_fail rfl (Nat.le_of_ble_eq_true rfl) fun M hl0 X hr hnm => t_x0_fail_b X hl0 hr hnm E
set_option maxHeartbeats 4000000 in
set_option maxRecDepth 100000 in
theorem t_x0_readWord_b {l : Launch} {G : GG} {M : MC} (X : CX M G cX0_readWord 2 RX0 ⟨9, 0, 0, 264⟩) (hl0 : M.2.1 = l) (hr : (mM M).sig.returnType = (some .boolean)) (hnm : (mM M).name = yX0_readWord.name) {p : Nat} {b0 : Nat} {g : AH} {r : Int32} {g1 : AH} (E : x0_readWord p b0 g = some (r, g1)) : WW M G 2 (RQ M G (some (.int r)) g1 0 0) 0 0 g 0 [(0, .ref p), (1, .ref (G.2.2.1 b0))] [] := by
  unfold x0_readWord at E
  refine r_aload_n X 0 dX0_readWord_0 rfl rfl ?_
  obtain ⟨x1, e2, E⟩ := gb_some E
  refine r_getR X dX0_readWord_1 f_X0_12 e2 ?_
  refine r_aload_n X 1 dX0_readWord_4 rfl rfl ?_
  obtain ⟨u6, e7, E⟩ := gb_some E
  obtain ⟨r3, g4, e5, E⟩ := cb_some E
  refine r_callV0 X hl0 (ci := 7) dX0_readWord_5 y_X7_isWord m_X0_122 rfl rfl e7 (t_x7_isWord (l := l) (G := G) e5) rfl rfl (Nat.le_of_ble_eq_true rfl) (by decide) ?_
  refine r_if_ne X 17 dX0_readWord_8 (by decide) (fun c8 => ?_) (fun c8 => ?_)
  · rw [if_neg c8] at E
    refine r_aload_n X 0 dX0_readWord_17 rfl rfl ?_
    obtain ⟨x9, e10, E⟩ := gb_some E
    refine r_getR X dX0_readWord_18 f_X0_12 e10 ?_
    obtain ⟨u14, e15, E⟩ := gb_some E
    obtain ⟨r11, g12, e13, E⟩ := cb_some E
    refine r_callV0 X hl0 (ci := 7) dX0_readWord_21 y_X7_readNext m_X0_72 rfl rfl e15 (t_x7_readNext (l := l) (G := G) e13) rfl rfl (Nat.le_of_ble_eq_true rfl) (by decide) ?_
    refine r_iconst X (v := 1) dX0_readWord_24 (by decide) ?_
    cases E
    exact r_zret X hr (Or.inr rfl) dX0_readWord_25 (by decide) (by decide)
  · rw [if_pos c8] at E
    refine r_aload_n X 0 dX0_readWord_11 rfl rfl ?_
    refine r_iconst X (v := 1) dX0_readWord_12 (by decide) ?_
    obtain ⟨u19, e20, E⟩ := gb_some E
    obtain ⟨r16, g17, e18, E⟩ := cb_some E
    refine r_callV0 X hl0 (ci := 0) dX0_readWord_13 y_X0_fail m_X0_113 rfl rfl e20 (t_x0_fail (l := l) (G := G) e18) rfl rfl (Nat.le_of_ble_eq_true rfl) (by decide) ?_
    by_cases c21 : bz r16
    · rw [if_pos c21] at E
      cases E
      exact r_zret X hr c21 dX0_readWord_16 (by decide) (by decide)
    · rw [if_neg c21] at E; cases E
theorem t_x0_readWord {l : Launch} {G : GG} {p : Nat} {b0 : Nat} {g : AH} {r : Int32} {g1 : AH} (E : x0_readWord p b0 g = some (r, g1)) : Ct l G yX0_readWord cX0_readWord 2 (some .boolean) ⟨9, 0, 0, 264⟩ [.ref p, .ref (G.2.2.1 b0)] g (some (.int r)) g1 :=
  ct_of (L0 := [(0, .ref p), (1, .ref (G.2.2.1 b0))]) y_X0_readWord rfl (Nat.le_of_ble_eq_true rfl) fun M hl0 X hr hnm => t_x0_readWord_b X hl0 hr hnm E
set_option maxHeartbeats 4000000 in
set_option maxRecDepth 100000 in
theorem t_x7_value_l7 {l : Launch} {G : GG} {M : MC} (X : CX M G cX7_value 3 RX7 ⟨3, 0, 0, 150⟩) (hl0 : M.2.1 = l) (hr : (mM M).sig.returnType = (some .int)) (hnm : (mM M).name = yX7_value.name) {Q : State → Prop} {kc ks : Nat} {s9 : ((Int32 × Int32) ⊕ (Int32))} {g1 : AH} {a0 : Nat} {s0 : Int32 × Int32} (hc : ∀ s1, s9 = .inl s1 → WW M G 3 Q kc ks g1 7 [(0, .ref a0), (1, .int s1.1), (2, .int s1.2)] []) (hx : ∀ t, s9 = .inr t → WW M G 3 Q kc ks g1 42 [(1, .int t)] []) {g : AH} (E : x7_value_l7 a0 s0 g = some (s9, g1)) : WW M G 3 Q kc ks g 7 [(0, .ref a0), (1, .int s0.1), (2, .int s0.2)] [] := by
  unfold x7_value_l7 at E
  refine r_iload_n X 2 dX7_value_7 rfl rfl ?_
  refine r_aload_n X 0 dX7_value_8 rfl rfl ?_
  obtain ⟨x1, e2, E⟩ := gb_some E
  refine r_getI X dX7_value_9 f_X7_36 e2 ?_
  refine r_icmp_ge X 42 dX7_value_12 (by decide) (fun c3 => ?_) (fun c3 => ?_)
  · rw [if_pos c3] at E
    cases E
    exact r_pick (by rfl : lpick [(0, .ref a0), (1, .int s0.1), (2, .int s0.2)] [1] = _) (hx _ rfl)
  · rw [if_neg c3] at E
    refine r_bipush X (v := 10) dX7_value_15 (by decide) ?_
    refine r_iload_n X 1 dX7_value_17 rfl rfl ?_
    refine r_imul X dX7_value_18 ?_
    refine r_aload_n X 0 dX7_value_19 rfl rfl ?_
    obtain ⟨x4, e5, E⟩ := gb_some E
    refine r_getR X dX7_value_20 f_X7_9 e5 ?_
    refine r_iload_n X 2 dX7_value_23 rfl rfl ?_
    obtain ⟨x6, e7, E⟩ := gb_some E
    refine r_iald X dX7_value_24 e7 ?_
    refine r_iadd X dX7_value_25 ?_
    refine r_bipush X (v := 48) dX7_value_26 (by decide) ?_
    refine r_isub X dX7_value_28 ?_
    refine r_sipush X (v := 1000) dX7_value_29 (by decide) ?_
    refine r_min X dX7_value_32 m_X7_52m (by decide) (Nat.le_of_ble_eq_true rfl) ?_
    refine r_istore_n X 1 (L1 := [(1, .int (if 1000 < (((10 * s0.1) + x6) - 48) then 1000 else (((10 * s0.1) + x6) - 48))), (0, .ref a0), (2, .int s0.2)]) dX7_value_35 rfl (by decide) rfl ?_
    refine r_iinc X (v := (s0.2 + 1)) (L1 := [(2, .int (s0.2 + 1)), (1, .int (if 1000 < (((10 * s0.1) + x6) - 48) then 1000 else (((10 * s0.1) + x6) - 48))), (0, .ref a0)]) dX7_value_36 rfl rfl (by decide) rfl ?_
    refine r_goto X 7 dX7_value_39 (by decide) ?_
    cases E
    exact r_pick (by rfl : lpick [(2, .int (s0.2 + 1)), (1, .int (if 1000 < (((10 * s0.1) + x6) - 48) then 1000 else (((10 * s0.1) + x6) - 48))), (0, .ref a0)] [2, 1, 0] = _) (hc _ rfl)
set_option maxHeartbeats 4000000 in
theorem t_x7_value_l7_r {l : Launch} {G : GG} {M : MC} (X : CX M G cX7_value 3 RX7 ⟨3, 0, 0, 150⟩) (hl0 : M.2.1 = l) (hr : (mM M).sig.returnType = (some .int)) (hnm : (mM M).name = yX7_value.name) {Q : State → Prop} {kc ks : Nat} {a0 : Nat} : ∀ (n : Nat) (s0 : Int32 × Int32) (g : AH) (t : (Int32)) (g1 : AH), loopX (x7_value_l7 a0) n s0 g = some (t, g1) → WW M G 3 Q kc ks g1 42 [(1, .int t)] [] → WW M G 3 Q kc ks g 7 [(0, .ref a0), (1, .int s0.1), (2, .int s0.2)] [] :=
  loop_cps (K := fun t g1 => WW M G 3 Q kc ks g1 42 [(1, .int t)] []) (fun _ s0 g => WW M G 3 Q kc ks g 7 [(0, .ref a0), (1, .int s0.1), (2, .int s0.2)] []) (fun n s0 g st g1 E hc hx => t_x7_value_l7 X hl0 hr hnm hc hx E)
set_option maxHeartbeats 4000000 in
set_option maxRecDepth 100000 in
theorem t_x7_value_b {l : Launch} {G : GG} {M : MC} (X : CX M G cX7_value 3 RX7 ⟨3, 0, 0, 150⟩) (hl0 : M.2.1 = l) (hr : (mM M).sig.returnType = (some .int)) (hnm : (mM M).name = yX7_value.name) {p : Nat} {g : AH} {r : Int32} {g1 : AH} (E : x7_value p g = some (r, g1)) : WW M G 3 (RQ M G (some (.int r)) g1 0 0) 0 0 g 0 [(0, .ref p)] [] := by
  unfold x7_value at E
  refine r_iconst X (v := 0) dX7_value_0 (by decide) ?_
  refine r_istore_n X 1 (L1 := [(1, .int 0), (0, .ref p)]) dX7_value_1 rfl (by decide) rfl ?_
  refine r_aload_n X 0 dX7_value_2 rfl rfl ?_
  obtain ⟨x1, e2, E⟩ := gb_some E
  refine r_getI X dX7_value_3 f_X7_42 e2 ?_
  refine r_istore_n X 2 (L1 := [(2, .int x1), (1, .int 0), (0, .ref p)]) dX7_value_6 rfl (by decide) rfl ?_
  obtain ⟨t3, g4, e5, E⟩ := cb_some E
  refine r_pick (by rfl : lpick [(2, .int x1), (1, .int 0), (0, .ref p)] [2, 1, 0] = _) (t_x7_value_l7_r X hl0 hr hnm _ _ _ _ _ e5 ?_)
  refine r_iload_n X 1 dX7_value_42 rfl rfl ?_
  cases E
  exact r_iret X hr dX7_value_43 (by decide) (by decide)
theorem t_x7_value {l : Launch} {G : GG} {p : Nat} {g : AH} {r : Int32} {g1 : AH} (E : x7_value p g = some (r, g1)) : Ct l G yX7_value cX7_value 3 (some .int) ⟨3, 0, 0, 150⟩ [.ref p] g (some (.int r)) g1 :=
  ct_of (L0 := [(0, .ref p)]) y_X7_value rfl (Nat.le_of_ble_eq_true rfl) fun M hl0 X hr hnm => t_x7_value_b X hl0 hr hnm E
set_option maxHeartbeats 4000000 in
set_option maxRecDepth 100000 in
theorem t_x0_isNumber_j40 {l : Launch} {G : GG} {M : MC} (X : CX M G cX0_isNumber 3 RX0 ⟨4, 0, 0, 172⟩) (hl0 : M.2.1 = l) (hr : (mM M).sig.returnType = (some .boolean)) (hnm : (mM M).name = yX0_isNumber.name)  {g : AH} {r : Int32} {g1 : AH} (E : x0_isNumber_j40  g = some (r, g1)) : WW M G 3 (RQ M G (some (.int r)) g1 0 0) 0 0 g 40 [] [] := by
  unfold x0_isNumber_j40 at E
  refine r_iconst X (v := 1) dX0_isNumber_40 (by decide) ?_
  refine r_goto X 45 dX0_isNumber_41 (by decide) ?_
  cases E
  exact r_zret X hr (Or.inr rfl) dX0_isNumber_45 (by decide) (by decide)
set_option maxHeartbeats 4000000 in
set_option maxRecDepth 100000 in
theorem t_x0_isNumber_b {l : Launch} {G : GG} {M : MC} (X : CX M G cX0_isNumber 3 RX0 ⟨4, 0, 0, 172⟩) (hl0 : M.2.1 = l) (hr : (mM M).sig.returnType = (some .boolean)) (hnm : (mM M).name = yX0_isNumber.name) {p : Nat} {b0 : Int32} {b1 : Int32} {g : AH} {r : Int32} {g1 : AH} (E : x0_isNumber p b0 b1 g = some (r, g1)) : WW M G 3 (RQ M G (some (.int r)) g1 0 0) 0 0 g 0 [(0, .ref p), (1, .int b0), (2, .int b1)] [] := by
  unfold x0_isNumber at E
  refine r_aload_n X 0 dX0_isNumber_0 rfl rfl ?_
  obtain ⟨x1, e2, E⟩ := gb_some E
  refine r_getR X dX0_isNumber_1 f_X0_12 e2 ?_
  obtain ⟨x3, e4, E⟩ := gb_some E
  refine r_getI X dX0_isNumber_4 f_X0_110 e4 ?_
  refine r_iconst X (v := 2) dX0_isNumber_7 (by decide) ?_
  refine r_icmp_eq X 17 dX0_isNumber_8 (by decide) (fun c5 => ?_) (fun c5 => ?_)
  · rw [if_pos c5] at E
    refine r_aload_n X 0 dX0_isNumber_17 rfl rfl ?_
    obtain ⟨x6, e7, E⟩ := gb_some E
    refine r_getR X dX0_isNumber_18 f_X0_12 e7 ?_
    obtain ⟨u11, e12, E⟩ := gb_some E
    obtain ⟨r8, g9, e10, E⟩ := cb_some E
    refine r_callV0 X hl0 (ci := 7) dX0_isNumber_21 y_X7_value m_X0_65 rfl rfl e12 (t_x7_value (l := l) (G := G) e10) rfl rfl (Nat.le_of_ble_eq_true rfl) (by decide) ?_
    refine r_iload_n X 1 dX0_isNumber_24 rfl rfl ?_
    refine r_iload_n X 2 dX0_isNumber_25 rfl rfl ?_
    obtain ⟨r13, g14, e15, E⟩ := cb_some E
    refine r_callSN0 X hl0 dX0_isNumber_26 y_X8_isWithin (List.mem_of_getElem? (i := 6) rfl) (t_x8_isWithin (l := l) (G := G) e15) rfl rfl (Nat.le_of_ble_eq_true rfl) (by decide) ?_
    refine r_if_ne X 40 dX0_isNumber_29 (by decide) (fun c16 => ?_) (fun c16 => ?_)
    · rw [if_neg c16] at E
      exact r_pick (by rfl : lpick [(0, .ref p), (1, .int b0), (2, .int b1)] [] = _) (t_x0_isNumber_j40 X hl0 hr hnm E)
    · rw [if_pos c16] at E
      refine r_aload_n X 0 dX0_isNumber_32 rfl rfl ?_
      refine r_iconst X (v := 2) dX0_isNumber_33 (by decide) ?_
      obtain ⟨u20, e21, E⟩ := gb_some E
      obtain ⟨r17, g18, e19, E⟩ := cb_some E
      refine r_callV0 X hl0 (ci := 0) dX0_isNumber_34 y_X0_fail m_X0_113 rfl rfl e21 (t_x0_fail (l := l) (G := G) e19) rfl rfl (Nat.le_of_ble_eq_true rfl) (by decide) ?_
      refine r_if_eq X 44 dX0_isNumber_37 (by decide) (fun c22 => ?_) (fun c22 => ?_)
      · rw [if_pos c22] at E
        refine r_iconst X (v := 0) dX0_isNumber_44 (by decide) ?_
        cases E
        exact r_zret X hr (Or.inl rfl) dX0_isNumber_45 (by decide) (by decide)
      · rw [if_neg c22] at E
        exact r_pick (by rfl : lpick [(0, .ref p), (1, .int b0), (2, .int b1)] [] = _) (t_x0_isNumber_j40 X hl0 hr hnm E)
  · rw [if_neg c5] at E
    refine r_aload_n X 0 dX0_isNumber_11 rfl rfl ?_
    refine r_iconst X (v := 1) dX0_isNumber_12 (by decide) ?_
    obtain ⟨u26, e27, E⟩ := gb_some E
    obtain ⟨r23, g24, e25, E⟩ := cb_some E
    refine r_callV0 X hl0 (ci := 0) dX0_isNumber_13 y_X0_fail m_X0_113 rfl rfl e27 (t_x0_fail (l := l) (G := G) e25) rfl rfl (Nat.le_of_ble_eq_true rfl) (by decide) ?_
    by_cases c28 : bz r23
    · rw [if_pos c28] at E
      cases E
      exact r_zret X hr c28 dX0_isNumber_16 (by decide) (by decide)
    · rw [if_neg c28] at E; cases E
theorem t_x0_isNumber {l : Launch} {G : GG} {p : Nat} {b0 : Int32} {b1 : Int32} {g : AH} {r : Int32} {g1 : AH} (E : x0_isNumber p b0 b1 g = some (r, g1)) : Ct l G yX0_isNumber cX0_isNumber 3 (some .boolean) ⟨4, 0, 0, 172⟩ [.ref p, .int b0, .int b1] g (some (.int r)) g1 :=
  ct_of (L0 := [(0, .ref p), (1, .int b0), (2, .int b1)]) y_X0_isNumber rfl (Nat.le_of_ble_eq_true rfl) fun M hl0 X hr hnm => t_x0_isNumber_b X hl0 hr hnm E
set_option maxHeartbeats 4000000 in
set_option maxRecDepth 100000 in
theorem t_x0_readSemicolon_b {l : Launch} {G : GG} {M : MC} (X : CX M G cX0_readSemicolon 1 RX0 ⟨3, 0, 0, 100⟩) (hl0 : M.2.1 = l) (hr : (mM M).sig.returnType = (some .boolean)) (hnm : (mM M).name = yX0_readSemicolon.name) {p : Nat} {g : AH} {r : Int32} {g1 : AH} (E : x0_readSemicolon p g = some (r, g1)) : WW M G 1 (RQ M G (some (.int r)) g1 0 0) 0 0 g 0 [(0, .ref p)] [] := by
  unfold x0_readSemicolon at E
  refine r_aload_n X 0 dX0_readSemicolon_0 rfl rfl ?_
  obtain ⟨x1, e2, E⟩ := gb_some E
  refine r_getR X dX0_readSemicolon_1 f_X0_12 e2 ?_
  obtain ⟨x3, e4, E⟩ := gb_some E
  refine r_getI X dX0_readSemicolon_4 f_X0_110 e4 ?_
  refine r_iconst X (v := 3) dX0_readSemicolon_7 (by decide) ?_
  refine r_icmp_eq X 17 dX0_readSemicolon_8 (by decide) (fun c5 => ?_) (fun c5 => ?_)
  · rw [if_pos c5] at E
    refine r_aload_n X 0 dX0_readSemicolon_17 rfl rfl ?_
    obtain ⟨x6, e7, E⟩ := gb_some E
    refine r_getR X dX0_readSemicolon_18 f_X0_12 e7 ?_
    obtain ⟨u11, e12, E⟩ := gb_some E
    obtain ⟨r8, g9, e10, E⟩ := cb_some E
    refine r_callV0 X hl0 (ci := 7) dX0_readSemicolon_21 y_X7_readNext m_X0_72 rfl rfl e12 (t_x7_readNext (l := l) (G := G) e10) rfl rfl (Nat.le_of_ble_eq_true rfl) (by decide) ?_
    refine r_iconst X (v := 1) dX0_readSemicolon_24 (by decide) ?_
    cases E
    exact r_zret X hr (Or.inr rfl) dX0_readSemicolon_25 (by decide) (by decide)
  · rw [if_neg c5] at E
    refine r_aload_n X 0 dX0_readSemicolon_11 rfl rfl ?_
    refine r_iconst X (v := 1) dX0_readSemicolon_12 (by decide) ?_
    obtain ⟨u16, e17, E⟩ := gb_some E
    obtain ⟨r13, g14, e15, E⟩ := cb_some E
    refine r_callV0 X hl0 (ci := 0) dX0_readSemicolon_13 y_X0_fail m_X0_113 rfl rfl e17 (t_x0_fail (l := l) (G := G) e15) rfl rfl (Nat.le_of_ble_eq_true rfl) (by decide) ?_
    by_cases c18 : bz r13
    · rw [if_pos c18] at E
      cases E
      exact r_zret X hr c18 dX0_readSemicolon_16 (by decide) (by decide)
    · rw [if_neg c18] at E; cases E
theorem t_x0_readSemicolon {l : Launch} {G : GG} {p : Nat} {g : AH} {r : Int32} {g1 : AH} (E : x0_readSemicolon p g = some (r, g1)) : Ct l G yX0_readSemicolon cX0_readSemicolon 1 (some .boolean) ⟨3, 0, 0, 100⟩ [.ref p] g (some (.int r)) g1 :=
  ct_of (L0 := [(0, .ref p)]) y_X0_readSemicolon rfl (Nat.le_of_ble_eq_true rfl) fun M hl0 X hr hnm => t_x0_readSemicolon_b X hl0 hr hnm E
set_option maxHeartbeats 4000000 in
set_option maxRecDepth 100000 in
theorem t_x0_readLogs_b {l : Launch} {G : GG} {M : MC} (X : CX M G cX0_readLogs 2 RX0 ⟨10, 0, 0, 285⟩) (hl0 : M.2.1 = l) (hr : (mM M).sig.returnType = (some .boolean)) (hnm : (mM M).name = yX0_readLogs.name) {p : Nat} {b0 : Nat} {g : AH} {r : Int32} {g1 : AH} (E : x0_readLogs p b0 g = some (r, g1)) : WW M G 2 (RQ M G (some (.int r)) g1 0 0) 0 0 g 0 [(0, .ref p), (1, .ref b0)] [] := by
  unfold x0_readLogs at E
  refine r_aload_n X 0 dX0_readLogs_0 rfl rfl ?_
  refine r_ldcS X dX0_readLogs_1 (List.mem_of_getElem? (i := 12) rfl) ?_
  obtain ⟨u4, e5, E⟩ := gb_some E
  obtain ⟨r1, g2, e3, E⟩ := cb_some E
  refine r_callV0 X hl0 (ci := 0) dX0_readLogs_3 y_X0_readWord m_X0_57 rfl rfl e5 (t_x0_readWord (l := l) (G := G) e3) rfl rfl (Nat.le_of_ble_eq_true rfl) (by decide) ?_
  refine r_if_eq X 19 dX0_readLogs_6 (by decide) (fun c6 => ?_) (fun c6 => ?_)
  · rw [if_pos c6] at E
    refine r_iconst X (v := 0) dX0_readLogs_19 (by decide) ?_
    cases E
    exact r_zret X hr (Or.inl rfl) dX0_readLogs_20 (by decide) (by decide)
  · rw [if_neg c6] at E
    refine r_aload_n X 0 dX0_readLogs_9 rfl rfl ?_
    refine r_iconst X (v := 0) dX0_readLogs_10 (by decide) ?_
    refine r_bipush X (v := 99) dX0_readLogs_11 (by decide) ?_
    obtain ⟨u10, e11, E⟩ := gb_some E
    obtain ⟨r7, g8, e9, E⟩ := cb_some E
    refine r_callV0 X hl0 (ci := 0) dX0_readLogs_13 y_X0_isNumber m_X0_61 rfl rfl e11 (t_x0_isNumber (l := l) (G := G) e9) rfl rfl (Nat.le_of_ble_eq_true rfl) (by decide) ?_
    refine r_if_ne X 21 dX0_readLogs_16 (by decide) (fun c12 => ?_) (fun c12 => ?_)
    · rw [if_neg c12] at E
      refine r_aload_n X 1 dX0_readLogs_21 rfl rfl ?_
      refine r_aload_n X 0 dX0_readLogs_22 rfl rfl ?_
      obtain ⟨x13, e14, E⟩ := gb_some E
      refine r_getR X dX0_readLogs_23 f_X0_12 e14 ?_
      obtain ⟨u18, e19, E⟩ := gb_some E
      obtain ⟨r15, g16, e17, E⟩ := cb_some E
      refine r_callV0 X hl0 (ci := 7) dX0_readLogs_26 y_X7_value m_X0_65 rfl rfl e19 (t_x7_value (l := l) (G := G) e17) rfl rfl (Nat.le_of_ble_eq_true rfl) (by decide) ?_
      obtain ⟨g20, e21, E⟩ := gb_some E
      refine r_put X dX0_readLogs_29 f_X0_69 rfl rfl e21 ?_
      refine r_aload_n X 0 dX0_readLogs_32 rfl rfl ?_
      obtain ⟨x22, e23, E⟩ := gb_some E
      refine r_getR X dX0_readLogs_33 f_X0_12 e23 ?_
      obtain ⟨u27, e28, E⟩ := gb_some E
      obtain ⟨r24, g25, e26, E⟩ := cb_some E
      refine r_callV0 X hl0 (ci := 7) dX0_readLogs_36 y_X7_readNext m_X0_72 rfl rfl e28 (t_x7_readNext (l := l) (G := G) e26) rfl rfl (Nat.le_of_ble_eq_true rfl) (by decide) ?_
      refine r_aload_n X 0 dX0_readLogs_39 rfl rfl ?_
      obtain ⟨u32, e33, E⟩ := gb_some E
      obtain ⟨r29, g30, e31, E⟩ := cb_some E
      refine r_callV0 X hl0 (ci := 0) dX0_readLogs_40 y_X0_readSemicolon m_X0_75 rfl rfl e33 (t_x0_readSemicolon (l := l) (G := G) e31) rfl rfl (Nat.le_of_ble_eq_true rfl) (by decide) ?_
      by_cases c34 : bz r29
      · rw [if_pos c34] at E
        cases E
        exact r_zret X hr c34 dX0_readLogs_43 (by decide) (by decide)
      · rw [if_neg c34] at E; cases E
    · rw [if_pos c12] at E
      refine r_iconst X (v := 0) dX0_readLogs_19 (by decide) ?_
      cases E
      exact r_zret X hr (Or.inl rfl) dX0_readLogs_20 (by decide) (by decide)
theorem t_x0_readLogs {l : Launch} {G : GG} {p : Nat} {b0 : Nat} {g : AH} {r : Int32} {g1 : AH} (E : x0_readLogs p b0 g = some (r, g1)) : Ct l G yX0_readLogs cX0_readLogs 2 (some .boolean) ⟨10, 0, 0, 285⟩ [.ref p, .ref b0] g (some (.int r)) g1 :=
  ct_of (L0 := [(0, .ref p), (1, .ref b0)]) y_X0_readLogs rfl (Nat.le_of_ble_eq_true rfl) fun M hl0 X hr hnm => t_x0_readLogs_b X hl0 hr hnm E
set_option maxHeartbeats 4000000 in
set_option maxRecDepth 100000 in
theorem t_x0_readRow_l8 {l : Launch} {G : GG} {M : MC} (X : CX M G cX0_readRow 5 RX0 ⟨5, 0, 0, 194⟩) (hl0 : M.2.1 = l) (hr : (mM M).sig.returnType = (some .boolean)) (hnm : (mM M).name = yX0_readRow.name) {Q : State → Prop} {kc ks : Nat} {s9 : ((Int32) ⊕ ((Unit) ⊕ Int32))} {g1 : AH} {a0 : Nat} {a1 : Nat} {a2 : Int32} {a3 : Int32} {s0 : Int32} (hc : ∀ s1, s9 = .inl s1 → WW M G 5 Q kc ks g1 8 [(0, .ref a0), (1, .ref a1), (2, .int a2), (3, .int a3), (4, .int s1)] []) (hx : ∀ t, s9 = .inr t → Sum.elim (fun t1 => WW M G 5 Q kc ks g1 82 [(0, .ref a0)] []) (fun t2 => ∃ mc ms : Nat, kc ≤ mc ∧ ks ≤ ms ∧ Q = RQ M G (some (.int t2)) g1 mc ms) t) {g : AH} (E : x0_readRow_l8 a0 a1 a2 a3 s0 g = some (s9, g1)) : WW M G 5 Q kc ks g 8 [(0, .ref a0), (1, .ref a1), (2, .int a2), (3, .int a3), (4, .int s0)] [] := by
  unfold x0_readRow_l8 at E
  refine r_iload X dX0_readRow_8 rfl ?_
  refine r_aload_n X 1 dX0_readRow_10 rfl rfl ?_
  obtain ⟨x1, e2, E⟩ := gb_some E
  refine r_alen X 0 (by decide) dX0_readRow_11 e2 ?_
  refine r_icmp_gt X 82 dX0_readRow_12 (by decide) (fun c3 => ?_) (fun c3 => ?_)
  · rw [if_pos c3] at E
    cases E
    exact r_pick (by rfl : lpick [(0, .ref a0), (1, .ref a1), (2, .int a2), (3, .int a3), (4, .int s0)] [0] = _) (hx _ rfl)
  · rw [if_neg c3] at E
    refine r_aload_n X 0 dX0_readRow_15 rfl rfl ?_
    obtain ⟨x4, e5, E⟩ := gb_some E
    refine r_getR X dX0_readRow_16 f_X0_12 e5 ?_
    obtain ⟨x6, e7, E⟩ := gb_some E
    refine r_getI X dX0_readRow_19 f_X0_110 e7 ?_
    refine r_iconst X (v := 2) dX0_readRow_22 (by decide) ?_
    refine r_icmp_ne X 82 dX0_readRow_23 (by decide) (fun c8 => ?_) (fun c8 => ?_)
    · rw [if_neg c8] at E
      cases E
      exact r_pick (by rfl : lpick [(0, .ref a0), (1, .ref a1), (2, .int a2), (3, .int a3), (4, .int s0)] [0] = _) (hx _ rfl)
    · rw [if_pos c8] at E
      refine r_aload_n X 0 dX0_readRow_26 rfl rfl ?_
      refine r_iload_n X 2 dX0_readRow_27 rfl rfl ?_
      refine r_iload_n X 3 dX0_readRow_28 rfl rfl ?_
      obtain ⟨u12, e13, E⟩ := gb_some E
      obtain ⟨r9, g10, e11, E⟩ := cb_some E
      refine r_callV0 X hl0 (ci := 0) dX0_readRow_29 y_X0_isNumber m_X0_61 rfl rfl e13 (t_x0_isNumber (l := l) (G := G) e11) rfl rfl (Nat.le_of_ble_eq_true rfl) (by decide) ?_
      refine r_if_ne X 37 dX0_readRow_32 (by decide) (fun c14 => ?_) (fun c14 => ?_)
      · rw [if_neg c14] at E
        refine r_iload X dX0_readRow_37 rfl ?_
        refine r_aload_n X 1 dX0_readRow_39 rfl rfl ?_
        obtain ⟨x15, e16, E⟩ := gb_some E
        refine r_alen X 0 (by decide) dX0_readRow_40 e16 ?_
        refine r_icmp_lt X 50 dX0_readRow_41 (by decide) (fun c17 => ?_) (fun c17 => ?_)
        · rw [if_pos c17] at E
          refine r_aload_n X 1 dX0_readRow_50 rfl rfl ?_
          refine r_iload X dX0_readRow_51 rfl ?_
          refine r_aload_n X 0 dX0_readRow_53 rfl rfl ?_
          obtain ⟨x18, e19, E⟩ := gb_some E
          refine r_getR X dX0_readRow_54 f_X0_12 e19 ?_
          obtain ⟨u23, e24, E⟩ := gb_some E
          obtain ⟨r20, g21, e22, E⟩ := cb_some E
          refine r_callV0 X hl0 (ci := 7) dX0_readRow_57 y_X7_value m_X0_65 rfl rfl e24 (t_x7_value (l := l) (G := G) e22) rfl rfl (Nat.le_of_ble_eq_true rfl) (by decide) ?_
          obtain ⟨g25, e26, E⟩ := gb_some E
          refine r_iast X dX0_readRow_60 e26 ?_
          refine r_aload_n X 0 dX0_readRow_61 rfl rfl ?_
          refine r_iload X dX0_readRow_62 rfl ?_
          refine r_iconst X (v := 1) dX0_readRow_64 (by decide) ?_
          refine r_iadd X dX0_readRow_65 ?_
          obtain ⟨g27, e28, E⟩ := gb_some E
          refine r_put X dX0_readRow_66 f_X0_89 rfl rfl e28 ?_
          refine r_aload_n X 0 dX0_readRow_69 rfl rfl ?_
          obtain ⟨x29, e30, E⟩ := gb_some E
          refine r_getR X dX0_readRow_70 f_X0_12 e30 ?_
          obtain ⟨u34, e35, E⟩ := gb_some E
          obtain ⟨r31, g32, e33, E⟩ := cb_some E
          refine r_callV0 X hl0 (ci := 7) dX0_readRow_73 y_X7_readNext m_X0_72 rfl rfl e35 (t_x7_readNext (l := l) (G := G) e33) rfl rfl (Nat.le_of_ble_eq_true rfl) (by decide) ?_
          refine r_iinc X (v := (s0 + 1)) (L1 := [(4, .int (s0 + 1)), (0, .ref a0), (1, .ref a1), (2, .int a2), (3, .int a3)]) dX0_readRow_76 rfl rfl (by decide) rfl ?_
          refine r_goto X 8 dX0_readRow_79 (by decide) ?_
          cases E
          exact r_pick (by rfl : lpick [(4, .int (s0 + 1)), (0, .ref a0), (1, .ref a1), (2, .int a2), (3, .int a3)] [1, 2, 3, 4, 0] = _) (hc _ rfl)
        · rw [if_neg c17] at E
          refine r_aload_n X 0 dX0_readRow_44 rfl rfl ?_
          refine r_iconst X (v := 3) dX0_readRow_45 (by decide) ?_
          obtain ⟨u39, e40, E⟩ := gb_some E
          obtain ⟨r36, g37, e38, E⟩ := cb_some E
          refine r_callV0 X hl0 (ci := 0) dX0_readRow_46 y_X0_fail m_X0_113 rfl rfl e40 (t_x0_fail (l := l) (G := G) e38) rfl rfl (Nat.le_of_ble_eq_true rfl) (by decide) ?_
          by_cases c41 : bz r36
          · rw [if_pos c41] at E
            cases E
            obtain ⟨mc9, ms9, h91, h92, rfl⟩ := hx _ rfl
            exact r_zret X hr c41 dX0_readRow_49 h91 h92
          · rw [if_neg c41] at E; cases E
      · rw [if_pos c14] at E
        refine r_iconst X (v := 0) dX0_readRow_35 (by decide) ?_
        cases E
        obtain ⟨mc9, ms9, h91, h92, rfl⟩ := hx _ rfl
        exact r_zret X hr (Or.inl rfl) dX0_readRow_36 h91 h92
set_option maxHeartbeats 4000000 in
theorem t_x0_readRow_l8_r {l : Launch} {G : GG} {M : MC} (X : CX M G cX0_readRow 5 RX0 ⟨5, 0, 0, 194⟩) (hl0 : M.2.1 = l) (hr : (mM M).sig.returnType = (some .boolean)) (hnm : (mM M).name = yX0_readRow.name) {Q : State → Prop} {kc ks : Nat} {a0 : Nat} {a1 : Nat} {a2 : Int32} {a3 : Int32} : ∀ (n : Nat) (s0 : Int32) (g : AH) (t : ((Unit) ⊕ Int32)) (g1 : AH), loopX (x0_readRow_l8 a0 a1 a2 a3) n s0 g = some (t, g1) → Sum.elim (fun t1 => WW M G 5 Q kc ks g1 82 [(0, .ref a0)] []) (fun t2 => ∃ mc ms : Nat, kc ≤ mc ∧ ks ≤ ms ∧ Q = RQ M G (some (.int t2)) g1 mc ms) t → WW M G 5 Q kc ks g 8 [(0, .ref a0), (1, .ref a1), (2, .int a2), (3, .int a3), (4, .int s0)] [] :=
  loop_cps (K := fun t g1 => Sum.elim (fun t1 => WW M G 5 Q kc ks g1 82 [(0, .ref a0)] []) (fun t2 => ∃ mc ms : Nat, kc ≤ mc ∧ ks ≤ ms ∧ Q = RQ M G (some (.int t2)) g1 mc ms) t) (fun _ s0 g => WW M G 5 Q kc ks g 8 [(0, .ref a0), (1, .ref a1), (2, .int a2), (3, .int a3), (4, .int s0)] []) (fun n s0 g st g1 E hc hx => t_x0_readRow_l8 X hl0 hr hnm hc hx E)
set_option maxHeartbeats 4000000 in
set_option maxRecDepth 100000 in
theorem t_x0_readRow_j82 {l : Launch} {G : GG} {M : MC} (X : CX M G cX0_readRow 5 RX0 ⟨5, 0, 0, 194⟩) (hl0 : M.2.1 = l) (hr : (mM M).sig.returnType = (some .boolean)) (hnm : (mM M).name = yX0_readRow.name) {a0 : Nat} {g : AH} {r : Int32} {g1 : AH} (E : x0_readRow_j82 a0 g = some (r, g1)) : WW M G 5 (RQ M G (some (.int r)) g1 0 0) 0 0 g 82 [(0, .ref a0)] [] := by
  unfold x0_readRow_j82 at E
  refine r_aload_n X 0 dX0_readRow_82 rfl rfl ?_
  obtain ⟨u4, e5, E⟩ := gb_some E
  obtain ⟨r1, g2, e3, E⟩ := cb_some E
  refine r_callV0 X hl0 (ci := 0) dX0_readRow_83 y_X0_readSemicolon m_X0_75 rfl rfl e5 (t_x0_readSemicolon (l := l) (G := G) e3) rfl rfl (Nat.le_of_ble_eq_true rfl) (by decide) ?_
  by_cases c6 : bz r1
  · rw [if_pos c6] at E
    cases E
    exact r_zret X hr c6 dX0_readRow_86 (by decide) (by decide)
  · rw [if_neg c6] at E; cases E
set_option maxHeartbeats 4000000 in
set_option maxRecDepth 100000 in
theorem t_x0_readRow_b {l : Launch} {G : GG} {M : MC} (X : CX M G cX0_readRow 5 RX0 ⟨5, 0, 0, 194⟩) (hl0 : M.2.1 = l) (hr : (mM M).sig.returnType = (some .boolean)) (hnm : (mM M).name = yX0_readRow.name) {p : Nat} {b0 : Nat} {b1 : Int32} {b2 : Int32} {g : AH} {r : Int32} {g1 : AH} (E : x0_readRow p b0 b1 b2 g = some (r, g1)) : WW M G 5 (RQ M G (some (.int r)) g1 0 0) 0 0 g 0 [(0, .ref p), (1, .ref b0), (2, .int b1), (3, .int b2)] [] := by
  unfold x0_readRow at E
  refine r_aload_n X 0 dX0_readRow_0 rfl rfl ?_
  refine r_iconst X (v := 0) dX0_readRow_1 (by decide) ?_
  obtain ⟨g1, e2, E⟩ := gb_some E
  refine r_put X dX0_readRow_2 f_X0_89 rfl rfl e2 ?_
  refine r_iconst X (v := 0) dX0_readRow_5 (by decide) ?_
  refine r_istore X (L1 := [(4, .int 0), (0, .ref p), (1, .ref b0), (2, .int b1), (3, .int b2)]) dX0_readRow_6 (by decide) rfl ?_
  obtain ⟨t3, g4, e5, E⟩ := cb_some E
  rcases t3 with t6 | t7
  · rw [Sum.elim_inl] at E
    refine r_pick (by rfl : lpick [(4, .int 0), (0, .ref p), (1, .ref b0), (2, .int b1), (3, .int b2)] [1, 2, 3, 4, 0] = _) (t_x0_readRow_l8_r X hl0 hr hnm _ _ _ _ _ e5 ?_)
    exact r_pick (by rfl : lpick [(0, .ref p)] [0] = _) (t_x0_readRow_j82 X hl0 hr hnm E)
  · rw [Sum.elim_inr] at E
    cases E
    exact r_pick (by rfl : lpick [(4, .int 0), (0, .ref p), (1, .ref b0), (2, .int b1), (3, .int b2)] [1, 2, 3, 4, 0] = _) (t_x0_readRow_l8_r X hl0 hr hnm _ _ _ _ _ e5 ⟨_, _, by decide, by decide, rfl⟩)
theorem t_x0_readRow {l : Launch} {G : GG} {p : Nat} {b0 : Nat} {b1 : Int32} {b2 : Int32} {g : AH} {r : Int32} {g1 : AH} (E : x0_readRow p b0 b1 b2 g = some (r, g1)) : Ct l G yX0_readRow cX0_readRow 5 (some .boolean) ⟨5, 0, 0, 194⟩ [.ref p, .ref b0, .int b1, .int b2] g (some (.int r)) g1 :=
  ct_of (L0 := [(0, .ref p), (1, .ref b0), (2, .int b1), (3, .int b2)]) y_X0_readRow rfl (Nat.le_of_ble_eq_true rfl) fun M hl0 X hr hnm => t_x0_readRow_b X hl0 hr hnm E
set_option maxHeartbeats 4000000 in
set_option maxRecDepth 100000 in
theorem t_x0_readBunks_j36 {l : Launch} {G : GG} {M : MC} (X : CX M G cX0_readBunks 3 RX0 ⟨10, 0, 0, 285⟩) (hl0 : M.2.1 = l) (hr : (mM M).sig.returnType = (some .boolean)) (hnm : (mM M).name = yX0_readBunks.name) {a0 : Nat} {a1 : Nat} {s0 : Int32} {g : AH} {r : Int32} {g1 : AH} (E : x0_readBunks_j36 a0 a1 s0 g = some (r, g1)) : WW M G 3 (RQ M G (some (.int r)) g1 0 0) 0 0 g 36 [(0, .ref a0), (1, .ref a1)] [.int s0] := by
  unfold x0_readBunks_j36 at E
  refine r_istore_n X 2 (L1 := [(2, .int s0), (0, .ref a0), (1, .ref a1)]) dX0_readBunks_36 rfl (by decide) rfl ?_
  refine r_aload_n X 1 dX0_readBunks_37 rfl rfl ?_
  refine r_aload_n X 0 dX0_readBunks_38 rfl rfl ?_
  obtain ⟨x1, e2, E⟩ := gb_some E
  refine r_getI X dX0_readBunks_39 f_X0_89 e2 ?_
  obtain ⟨g3, e4, E⟩ := gb_some E
  refine r_put X dX0_readBunks_42 f_X0_92 rfl rfl e4 ?_
  refine r_iload_n X 2 dX0_readBunks_45 rfl rfl ?_
  by_cases c5 : bz s0
  · rw [if_pos c5] at E
    cases E
    exact r_zret X hr c5 dX0_readBunks_46 (by decide) (by decide)
  · rw [if_neg c5] at E; cases E
set_option maxHeartbeats 4000000 in
set_option maxRecDepth 100000 in
theorem t_x0_readBunks_j35 {l : Launch} {G : GG} {M : MC} (X : CX M G cX0_readBunks 3 RX0 ⟨10, 0, 0, 285⟩) (hl0 : M.2.1 = l) (hr : (mM M).sig.returnType = (some .boolean)) (hnm : (mM M).name = yX0_readBunks.name) {a0 : Nat} {a1 : Nat} {g : AH} {r : Int32} {g1 : AH} (E : x0_readBunks_j35 a0 a1 g = some (r, g1)) : WW M G 3 (RQ M G (some (.int r)) g1 0 0) 0 0 g 35 [(0, .ref a0), (1, .ref a1)] [] := by
  unfold x0_readBunks_j35 at E
  refine r_iconst X (v := 0) dX0_readBunks_35 (by decide) ?_
  exact r_pick (by rfl : lpick [(0, .ref a0), (1, .ref a1)] [0, 1] = _) (t_x0_readBunks_j36 X hl0 hr hnm E)
set_option maxHeartbeats 4000000 in
set_option maxRecDepth 100000 in
theorem t_x0_readBunks_b {l : Launch} {G : GG} {M : MC} (X : CX M G cX0_readBunks 3 RX0 ⟨10, 0, 0, 285⟩) (hl0 : M.2.1 = l) (hr : (mM M).sig.returnType = (some .boolean)) (hnm : (mM M).name = yX0_readBunks.name) {p : Nat} {b0 : Nat} {g : AH} {r : Int32} {g1 : AH} (E : x0_readBunks p b0 g = some (r, g1)) : WW M G 3 (RQ M G (some (.int r)) g1 0 0) 0 0 g 0 [(0, .ref p), (1, .ref b0)] [] := by
  unfold x0_readBunks at E
  refine r_aload_n X 0 dX0_readBunks_0 rfl rfl ?_
  refine r_ldcS X dX0_readBunks_1 (List.mem_of_getElem? (i := 13) rfl) ?_
  obtain ⟨u4, e5, E⟩ := gb_some E
  obtain ⟨r1, g2, e3, E⟩ := cb_some E
  refine r_callV0 X hl0 (ci := 0) dX0_readBunks_3 y_X0_readWord m_X0_57 rfl rfl e5 (t_x0_readWord (l := l) (G := G) e3) rfl rfl (Nat.le_of_ble_eq_true rfl) (by decide) ?_
  refine r_if_eq X 35 dX0_readBunks_6 (by decide) (fun c6 => ?_) (fun c6 => ?_)
  · rw [if_pos c6] at E
    exact r_pick (by rfl : lpick [(0, .ref p), (1, .ref b0)] [0, 1] = _) (t_x0_readBunks_j35 X hl0 hr hnm E)
  · rw [if_neg c6] at E
    refine r_aload_n X 0 dX0_readBunks_9 rfl rfl ?_
    refine r_iconst X (v := 0) dX0_readBunks_10 (by decide) ?_
    refine r_iconst X (v := 5) dX0_readBunks_11 (by decide) ?_
    obtain ⟨u10, e11, E⟩ := gb_some E
    obtain ⟨r7, g8, e9, E⟩ := cb_some E
    refine r_callV0 X hl0 (ci := 0) dX0_readBunks_12 y_X0_isNumber m_X0_61 rfl rfl e11 (t_x0_isNumber (l := l) (G := G) e9) rfl rfl (Nat.le_of_ble_eq_true rfl) (by decide) ?_
    refine r_if_eq X 35 dX0_readBunks_15 (by decide) (fun c12 => ?_) (fun c12 => ?_)
    · rw [if_pos c12] at E
      exact r_pick (by rfl : lpick [(0, .ref p), (1, .ref b0)] [0, 1] = _) (t_x0_readBunks_j35 X hl0 hr hnm E)
    · rw [if_neg c12] at E
      refine r_aload_n X 0 dX0_readBunks_18 rfl rfl ?_
      refine r_aload_n X 1 dX0_readBunks_19 rfl rfl ?_
      obtain ⟨x13, e14, E⟩ := gb_some E
      refine r_getR X dX0_readBunks_20 f_X0_81 e14 ?_
      refine r_iconst X (v := 0) dX0_readBunks_23 (by decide) ?_
      refine r_iconst X (v := 5) dX0_readBunks_24 (by decide) ?_
      obtain ⟨u18, e19, E⟩ := gb_some E
      obtain ⟨r15, g16, e17, E⟩ := cb_some E
      refine r_callV0 X hl0 (ci := 0) dX0_readBunks_25 y_X0_readRow m_X0_85 rfl rfl e19 (t_x0_readRow (l := l) (G := G) e17) rfl rfl (Nat.le_of_ble_eq_true rfl) (by decide) ?_
      refine r_if_eq X 35 dX0_readBunks_28 (by decide) (fun c20 => ?_) (fun c20 => ?_)
      · rw [if_pos c20] at E
        exact r_pick (by rfl : lpick [(0, .ref p), (1, .ref b0)] [0, 1] = _) (t_x0_readBunks_j35 X hl0 hr hnm E)
      · rw [if_neg c20] at E
        refine r_iconst X (v := 1) dX0_readBunks_31 (by decide) ?_
        refine r_goto X 36 dX0_readBunks_32 (by decide) ?_
        exact r_pick (by rfl : lpick [(0, .ref p), (1, .ref b0)] [0, 1] = _) (t_x0_readBunks_j36 X hl0 hr hnm E)
theorem t_x0_readBunks {l : Launch} {G : GG} {p : Nat} {b0 : Nat} {g : AH} {r : Int32} {g1 : AH} (E : x0_readBunks p b0 g = some (r, g1)) : Ct l G yX0_readBunks cX0_readBunks 3 (some .boolean) ⟨10, 0, 0, 285⟩ [.ref p, .ref b0] g (some (.int r)) g1 :=
  ct_of (L0 := [(0, .ref p), (1, .ref b0)]) y_X0_readBunks rfl (Nat.le_of_ble_eq_true rfl) fun M hl0 X hr hnm => t_x0_readBunks_b X hl0 hr hnm E
set_option maxHeartbeats 4000000 in
set_option maxRecDepth 100000 in
theorem t_x0_readBlankets_j28 {l : Launch} {G : GG} {M : MC} (X : CX M G cX0_readBlankets 3 RX0 ⟨10, 0, 0, 285⟩) (hl0 : M.2.1 = l) (hr : (mM M).sig.returnType = (some .boolean)) (hnm : (mM M).name = yX0_readBlankets.name) {a0 : Nat} {a1 : Nat} {s0 : Int32} {g : AH} {r : Int32} {g1 : AH} (E : x0_readBlankets_j28 a0 a1 s0 g = some (r, g1)) : WW M G 3 (RQ M G (some (.int r)) g1 0 0) 0 0 g 28 [(0, .ref a0), (1, .ref a1)] [.int s0] := by
  unfold x0_readBlankets_j28 at E
  refine r_istore_n X 2 (L1 := [(2, .int s0), (0, .ref a0), (1, .ref a1)]) dX0_readBlankets_28 rfl (by decide) rfl ?_
  refine r_aload_n X 1 dX0_readBlankets_29 rfl rfl ?_
  refine r_aload_n X 0 dX0_readBlankets_30 rfl rfl ?_
  obtain ⟨x1, e2, E⟩ := gb_some E
  refine r_getI X dX0_readBlankets_31 f_X0_89 e2 ?_
  obtain ⟨g3, e4, E⟩ := gb_some E
  refine r_put X dX0_readBlankets_34 f_X0_100 rfl rfl e4 ?_
  refine r_iload_n X 2 dX0_readBlankets_37 rfl rfl ?_
  by_cases c5 : bz s0
  · rw [if_pos c5] at E
    cases E
    exact r_zret X hr c5 dX0_readBlankets_38 (by decide) (by decide)
  · rw [if_neg c5] at E; cases E
set_option maxHeartbeats 4000000 in
set_option maxRecDepth 100000 in
theorem t_x0_readBlankets_j27 {l : Launch} {G : GG} {M : MC} (X : CX M G cX0_readBlankets 3 RX0 ⟨10, 0, 0, 285⟩) (hl0 : M.2.1 = l) (hr : (mM M).sig.returnType = (some .boolean)) (hnm : (mM M).name = yX0_readBlankets.name) {a0 : Nat} {a1 : Nat} {g : AH} {r : Int32} {g1 : AH} (E : x0_readBlankets_j27 a0 a1 g = some (r, g1)) : WW M G 3 (RQ M G (some (.int r)) g1 0 0) 0 0 g 27 [(0, .ref a0), (1, .ref a1)] [] := by
  unfold x0_readBlankets_j27 at E
  refine r_iconst X (v := 0) dX0_readBlankets_27 (by decide) ?_
  exact r_pick (by rfl : lpick [(0, .ref a0), (1, .ref a1)] [0, 1] = _) (t_x0_readBlankets_j28 X hl0 hr hnm E)
set_option maxHeartbeats 4000000 in
set_option maxRecDepth 100000 in
theorem t_x0_readBlankets_b {l : Launch} {G : GG} {M : MC} (X : CX M G cX0_readBlankets 3 RX0 ⟨10, 0, 0, 285⟩) (hl0 : M.2.1 = l) (hr : (mM M).sig.returnType = (some .boolean)) (hnm : (mM M).name = yX0_readBlankets.name) {p : Nat} {b0 : Nat} {g : AH} {r : Int32} {g1 : AH} (E : x0_readBlankets p b0 g = some (r, g1)) : WW M G 3 (RQ M G (some (.int r)) g1 0 0) 0 0 g 0 [(0, .ref p), (1, .ref b0)] [] := by
  unfold x0_readBlankets at E
  refine r_aload_n X 0 dX0_readBlankets_0 rfl rfl ?_
  refine r_ldcS X dX0_readBlankets_1 (List.mem_of_getElem? (i := 14) rfl) ?_
  obtain ⟨u4, e5, E⟩ := gb_some E
  obtain ⟨r1, g2, e3, E⟩ := cb_some E
  refine r_callV0 X hl0 (ci := 0) dX0_readBlankets_3 y_X0_readWord m_X0_57 rfl rfl e5 (t_x0_readWord (l := l) (G := G) e3) rfl rfl (Nat.le_of_ble_eq_true rfl) (by decide) ?_
  refine r_if_eq X 27 dX0_readBlankets_6 (by decide) (fun c6 => ?_) (fun c6 => ?_)
  · rw [if_pos c6] at E
    exact r_pick (by rfl : lpick [(0, .ref p), (1, .ref b0)] [0, 1] = _) (t_x0_readBlankets_j27 X hl0 hr hnm E)
  · rw [if_neg c6] at E
    refine r_aload_n X 0 dX0_readBlankets_9 rfl rfl ?_
    refine r_aload_n X 1 dX0_readBlankets_10 rfl rfl ?_
    obtain ⟨x7, e8, E⟩ := gb_some E
    refine r_getR X dX0_readBlankets_11 f_X0_97 e8 ?_
    refine r_iconst X (v := 1) dX0_readBlankets_14 (by decide) ?_
    refine r_bipush X (v := 9) dX0_readBlankets_15 (by decide) ?_
    obtain ⟨u12, e13, E⟩ := gb_some E
    obtain ⟨r9, g10, e11, E⟩ := cb_some E
    refine r_callV0 X hl0 (ci := 0) dX0_readBlankets_17 y_X0_readRow m_X0_85 rfl rfl e13 (t_x0_readRow (l := l) (G := G) e11) rfl rfl (Nat.le_of_ble_eq_true rfl) (by decide) ?_
    refine r_if_eq X 27 dX0_readBlankets_20 (by decide) (fun c14 => ?_) (fun c14 => ?_)
    · rw [if_pos c14] at E
      exact r_pick (by rfl : lpick [(0, .ref p), (1, .ref b0)] [0, 1] = _) (t_x0_readBlankets_j27 X hl0 hr hnm E)
    · rw [if_neg c14] at E
      refine r_iconst X (v := 1) dX0_readBlankets_23 (by decide) ?_
      refine r_goto X 28 dX0_readBlankets_24 (by decide) ?_
      exact r_pick (by rfl : lpick [(0, .ref p), (1, .ref b0)] [0, 1] = _) (t_x0_readBlankets_j28 X hl0 hr hnm E)
theorem t_x0_readBlankets {l : Launch} {G : GG} {p : Nat} {b0 : Nat} {g : AH} {r : Int32} {g1 : AH} (E : x0_readBlankets p b0 g = some (r, g1)) : Ct l G yX0_readBlankets cX0_readBlankets 3 (some .boolean) ⟨10, 0, 0, 285⟩ [.ref p, .ref b0] g (some (.int r)) g1 :=
  ct_of (L0 := [(0, .ref p), (1, .ref b0)]) y_X0_readBlankets rfl (Nat.le_of_ble_eq_true rfl) fun M hl0 X hr hnm => t_x0_readBlankets_b X hl0 hr hnm E
set_option maxHeartbeats 4000000 in
set_option maxRecDepth 100000 in
theorem t_x0_readForecast_j38 {l : Launch} {G : GG} {M : MC} (X : CX M G cX0_readForecast 3 RX0 ⟨10, 0, 0, 285⟩) (hl0 : M.2.1 = l) (hr : (mM M).sig.returnType = (some .boolean)) (hnm : (mM M).name = yX0_readForecast.name) {a0 : Nat} {a1 : Nat} {s0 : Int32} {g : AH} {r : Int32} {g1 : AH} (E : x0_readForecast_j38 a0 a1 s0 g = some (r, g1)) : WW M G 3 (RQ M G (some (.int r)) g1 0 0) 0 0 g 38 [(0, .ref a0), (1, .ref a1)] [.int s0] := by
  unfold x0_readForecast_j38 at E
  refine r_istore_n X 2 (L1 := [(2, .int s0), (0, .ref a0), (1, .ref a1)]) dX0_readForecast_38 rfl (by decide) rfl ?_
  refine r_aload_n X 1 dX0_readForecast_39 rfl rfl ?_
  refine r_aload_n X 0 dX0_readForecast_40 rfl rfl ?_
  obtain ⟨x1, e2, E⟩ := gb_some E
  refine r_getI X dX0_readForecast_41 f_X0_89 e2 ?_
  obtain ⟨g3, e4, E⟩ := gb_some E
  refine r_put X dX0_readForecast_44 f_X0_107 rfl rfl e4 ?_
  refine r_iload_n X 2 dX0_readForecast_47 rfl rfl ?_
  by_cases c5 : bz s0
  · rw [if_pos c5] at E
    cases E
    exact r_zret X hr c5 dX0_readForecast_48 (by decide) (by decide)
  · rw [if_neg c5] at E; cases E
set_option maxHeartbeats 4000000 in
set_option maxRecDepth 100000 in
theorem t_x0_readForecast_j37 {l : Launch} {G : GG} {M : MC} (X : CX M G cX0_readForecast 3 RX0 ⟨10, 0, 0, 285⟩) (hl0 : M.2.1 = l) (hr : (mM M).sig.returnType = (some .boolean)) (hnm : (mM M).name = yX0_readForecast.name) {a0 : Nat} {a1 : Nat} {g : AH} {r : Int32} {g1 : AH} (E : x0_readForecast_j37 a0 a1 g = some (r, g1)) : WW M G 3 (RQ M G (some (.int r)) g1 0 0) 0 0 g 37 [(0, .ref a0), (1, .ref a1)] [] := by
  unfold x0_readForecast_j37 at E
  refine r_iconst X (v := 0) dX0_readForecast_37 (by decide) ?_
  exact r_pick (by rfl : lpick [(0, .ref a0), (1, .ref a1)] [0, 1] = _) (t_x0_readForecast_j38 X hl0 hr hnm E)
set_option maxHeartbeats 4000000 in
set_option maxRecDepth 100000 in
theorem t_x0_readForecast_b {l : Launch} {G : GG} {M : MC} (X : CX M G cX0_readForecast 3 RX0 ⟨10, 0, 0, 285⟩) (hl0 : M.2.1 = l) (hr : (mM M).sig.returnType = (some .boolean)) (hnm : (mM M).name = yX0_readForecast.name) {p : Nat} {b0 : Nat} {g : AH} {r : Int32} {g1 : AH} (E : x0_readForecast p b0 g = some (r, g1)) : WW M G 3 (RQ M G (some (.int r)) g1 0 0) 0 0 g 0 [(0, .ref p), (1, .ref b0)] [] := by
  unfold x0_readForecast at E
  refine r_aload_n X 0 dX0_readForecast_0 rfl rfl ?_
  refine r_ldcS X dX0_readForecast_1 (List.mem_of_getElem? (i := 15) rfl) ?_
  obtain ⟨u4, e5, E⟩ := gb_some E
  obtain ⟨r1, g2, e3, E⟩ := cb_some E
  refine r_callV0 X hl0 (ci := 0) dX0_readForecast_3 y_X0_readWord m_X0_57 rfl rfl e5 (t_x0_readWord (l := l) (G := G) e3) rfl rfl (Nat.le_of_ble_eq_true rfl) (by decide) ?_
  refine r_if_eq X 37 dX0_readForecast_6 (by decide) (fun c6 => ?_) (fun c6 => ?_)
  · rw [if_pos c6] at E
    exact r_pick (by rfl : lpick [(0, .ref p), (1, .ref b0)] [0, 1] = _) (t_x0_readForecast_j37 X hl0 hr hnm E)
  · rw [if_neg c6] at E
    refine r_aload_n X 0 dX0_readForecast_9 rfl rfl ?_
    refine r_iconst X (v := 0) dX0_readForecast_10 (by decide) ?_
    refine r_bipush X (v := 20) dX0_readForecast_11 (by decide) ?_
    obtain ⟨u10, e11, E⟩ := gb_some E
    obtain ⟨r7, g8, e9, E⟩ := cb_some E
    refine r_callV0 X hl0 (ci := 0) dX0_readForecast_13 y_X0_isNumber m_X0_61 rfl rfl e11 (t_x0_isNumber (l := l) (G := G) e9) rfl rfl (Nat.le_of_ble_eq_true rfl) (by decide) ?_
    refine r_if_eq X 37 dX0_readForecast_16 (by decide) (fun c12 => ?_) (fun c12 => ?_)
    · rw [if_pos c12] at E
      exact r_pick (by rfl : lpick [(0, .ref p), (1, .ref b0)] [0, 1] = _) (t_x0_readForecast_j37 X hl0 hr hnm E)
    · rw [if_neg c12] at E
      refine r_aload_n X 0 dX0_readForecast_19 rfl rfl ?_
      refine r_aload_n X 1 dX0_readForecast_20 rfl rfl ?_
      obtain ⟨x13, e14, E⟩ := gb_some E
      refine r_getR X dX0_readForecast_21 f_X0_105 e14 ?_
      refine r_iconst X (v := 0) dX0_readForecast_24 (by decide) ?_
      refine r_bipush X (v := 20) dX0_readForecast_25 (by decide) ?_
      obtain ⟨u18, e19, E⟩ := gb_some E
      obtain ⟨r15, g16, e17, E⟩ := cb_some E
      refine r_callV0 X hl0 (ci := 0) dX0_readForecast_27 y_X0_readRow m_X0_85 rfl rfl e19 (t_x0_readRow (l := l) (G := G) e17) rfl rfl (Nat.le_of_ble_eq_true rfl) (by decide) ?_
      refine r_if_eq X 37 dX0_readForecast_30 (by decide) (fun c20 => ?_) (fun c20 => ?_)
      · rw [if_pos c20] at E
        exact r_pick (by rfl : lpick [(0, .ref p), (1, .ref b0)] [0, 1] = _) (t_x0_readForecast_j37 X hl0 hr hnm E)
      · rw [if_neg c20] at E
        refine r_iconst X (v := 1) dX0_readForecast_33 (by decide) ?_
        refine r_goto X 38 dX0_readForecast_34 (by decide) ?_
        exact r_pick (by rfl : lpick [(0, .ref p), (1, .ref b0)] [0, 1] = _) (t_x0_readForecast_j38 X hl0 hr hnm E)
theorem t_x0_readForecast {l : Launch} {G : GG} {p : Nat} {b0 : Nat} {g : AH} {r : Int32} {g1 : AH} (E : x0_readForecast p b0 g = some (r, g1)) : Ct l G yX0_readForecast cX0_readForecast 3 (some .boolean) ⟨10, 0, 0, 285⟩ [.ref p, .ref b0] g (some (.int r)) g1 :=
  ct_of (L0 := [(0, .ref p), (1, .ref b0)]) y_X0_readForecast rfl (Nat.le_of_ble_eq_true rfl) fun M hl0 X hr hnm => t_x0_readForecast_b X hl0 hr hnm E
set_option maxHeartbeats 4000000 in
set_option maxRecDepth 100000 in
theorem t_x0_readHiker_b {l : Launch} {G : GG} {M : MC} (X : CX M G cX0_readHiker 2 RX0 ⟨5, 0, 0, 194⟩) (hl0 : M.2.1 = l) (hr : (mM M).sig.returnType = (some .boolean)) (hnm : (mM M).name = yX0_readHiker.name) {p : Nat} {b0 : Nat} {g : AH} {r : Int32} {g1 : AH} (E : x0_readHiker p b0 g = some (r, g1)) : WW M G 2 (RQ M G (some (.int r)) g1 0 0) 0 0 g 0 [(0, .ref p), (1, .ref b0)] [] := by
  unfold x0_readHiker at E
  refine r_aload_n X 0 dX0_readHiker_0 rfl rfl ?_
  refine r_iconst X (v := 1) dX0_readHiker_1 (by decide) ?_
  refine r_bipush X (v := 30) dX0_readHiker_2 (by decide) ?_
  obtain ⟨u4, e5, E⟩ := gb_some E
  obtain ⟨r1, g2, e3, E⟩ := cb_some E
  refine r_callV0 X hl0 (ci := 0) dX0_readHiker_4 y_X0_isNumber m_X0_61 rfl rfl e5 (t_x0_isNumber (l := l) (G := G) e3) rfl rfl (Nat.le_of_ble_eq_true rfl) (by decide) ?_
  refine r_if_ne X 12 dX0_readHiker_7 (by decide) (fun c6 => ?_) (fun c6 => ?_)
  · rw [if_neg c6] at E
    refine r_aload_n X 1 dX0_readHiker_12 rfl rfl ?_
    refine r_aload_n X 0 dX0_readHiker_13 rfl rfl ?_
    obtain ⟨x7, e8, E⟩ := gb_some E
    refine r_getR X dX0_readHiker_14 f_X0_12 e8 ?_
    obtain ⟨u12, e13, E⟩ := gb_some E
    obtain ⟨r9, g10, e11, E⟩ := cb_some E
    refine r_callV0 X hl0 (ci := 7) dX0_readHiker_17 y_X7_value m_X0_65 rfl rfl e13 (t_x7_value (l := l) (G := G) e11) rfl rfl (Nat.le_of_ble_eq_true rfl) (by decide) ?_
    obtain ⟨g14, e15, E⟩ := gb_some E
    refine r_put X dX0_readHiker_20 f_X0_133 rfl rfl e15 ?_
    refine r_aload_n X 0 dX0_readHiker_23 rfl rfl ?_
    obtain ⟨x16, e17, E⟩ := gb_some E
    refine r_getR X dX0_readHiker_24 f_X0_12 e17 ?_
    obtain ⟨u21, e22, E⟩ := gb_some E
    obtain ⟨r18, g19, e20, E⟩ := cb_some E
    refine r_callV0 X hl0 (ci := 7) dX0_readHiker_27 y_X7_readNext m_X0_72 rfl rfl e22 (t_x7_readNext (l := l) (G := G) e20) rfl rfl (Nat.le_of_ble_eq_true rfl) (by decide) ?_
    refine r_aload_n X 0 dX0_readHiker_30 rfl rfl ?_
    refine r_iconst X (v := 0) dX0_readHiker_31 (by decide) ?_
    refine r_bipush X (v := 9) dX0_readHiker_32 (by decide) ?_
    obtain ⟨u26, e27, E⟩ := gb_some E
    obtain ⟨r23, g24, e25, E⟩ := cb_some E
    refine r_callV0 X hl0 (ci := 0) dX0_readHiker_34 y_X0_isNumber m_X0_61 rfl rfl e27 (t_x0_isNumber (l := l) (G := G) e25) rfl rfl (Nat.le_of_ble_eq_true rfl) (by decide) ?_
    refine r_if_ne X 42 dX0_readHiker_37 (by decide) (fun c28 => ?_) (fun c28 => ?_)
    · rw [if_neg c28] at E
      refine r_aload_n X 1 dX0_readHiker_42 rfl rfl ?_
      refine r_aload_n X 0 dX0_readHiker_43 rfl rfl ?_
      obtain ⟨x29, e30, E⟩ := gb_some E
      refine r_getR X dX0_readHiker_44 f_X0_12 e30 ?_
      obtain ⟨u34, e35, E⟩ := gb_some E
      obtain ⟨r31, g32, e33, E⟩ := cb_some E
      refine r_callV0 X hl0 (ci := 7) dX0_readHiker_47 y_X7_value m_X0_65 rfl rfl e35 (t_x7_value (l := l) (G := G) e33) rfl rfl (Nat.le_of_ble_eq_true rfl) (by decide) ?_
      obtain ⟨g36, e37, E⟩ := gb_some E
      refine r_put X dX0_readHiker_50 f_X0_138 rfl rfl e37 ?_
      refine r_aload_n X 0 dX0_readHiker_53 rfl rfl ?_
      obtain ⟨x38, e39, E⟩ := gb_some E
      refine r_getR X dX0_readHiker_54 f_X0_12 e39 ?_
      obtain ⟨u43, e44, E⟩ := gb_some E
      obtain ⟨r40, g41, e42, E⟩ := cb_some E
      refine r_callV0 X hl0 (ci := 7) dX0_readHiker_57 y_X7_readNext m_X0_72 rfl rfl e44 (t_x7_readNext (l := l) (G := G) e42) rfl rfl (Nat.le_of_ble_eq_true rfl) (by decide) ?_
      refine r_aload_n X 0 dX0_readHiker_60 rfl rfl ?_
      refine r_iconst X (v := 0) dX0_readHiker_61 (by decide) ?_
      refine r_bipush X (v := 99) dX0_readHiker_62 (by decide) ?_
      obtain ⟨u48, e49, E⟩ := gb_some E
      obtain ⟨r45, g46, e47, E⟩ := cb_some E
      refine r_callV0 X hl0 (ci := 0) dX0_readHiker_64 y_X0_isNumber m_X0_61 rfl rfl e49 (t_x0_isNumber (l := l) (G := G) e47) rfl rfl (Nat.le_of_ble_eq_true rfl) (by decide) ?_
      refine r_if_ne X 72 dX0_readHiker_67 (by decide) (fun c50 => ?_) (fun c50 => ?_)
      · rw [if_neg c50] at E
        refine r_aload_n X 1 dX0_readHiker_72 rfl rfl ?_
        refine r_aload_n X 0 dX0_readHiker_73 rfl rfl ?_
        obtain ⟨x51, e52, E⟩ := gb_some E
        refine r_getR X dX0_readHiker_74 f_X0_12 e52 ?_
        obtain ⟨u56, e57, E⟩ := gb_some E
        obtain ⟨r53, g54, e55, E⟩ := cb_some E
        refine r_callV0 X hl0 (ci := 7) dX0_readHiker_77 y_X7_value m_X0_65 rfl rfl e57 (t_x7_value (l := l) (G := G) e55) rfl rfl (Nat.le_of_ble_eq_true rfl) (by decide) ?_
        obtain ⟨g58, e59, E⟩ := gb_some E
        refine r_put X dX0_readHiker_80 f_X0_141 rfl rfl e59 ?_
        refine r_aload_n X 0 dX0_readHiker_83 rfl rfl ?_
        obtain ⟨x60, e61, E⟩ := gb_some E
        refine r_getR X dX0_readHiker_84 f_X0_12 e61 ?_
        obtain ⟨u65, e66, E⟩ := gb_some E
        obtain ⟨r62, g63, e64, E⟩ := cb_some E
        refine r_callV0 X hl0 (ci := 7) dX0_readHiker_87 y_X7_readNext m_X0_72 rfl rfl e66 (t_x7_readNext (l := l) (G := G) e64) rfl rfl (Nat.le_of_ble_eq_true rfl) (by decide) ?_
        refine r_aload_n X 0 dX0_readHiker_90 rfl rfl ?_
        obtain ⟨u70, e71, E⟩ := gb_some E
        obtain ⟨r67, g68, e69, E⟩ := cb_some E
        refine r_callV0 X hl0 (ci := 0) dX0_readHiker_91 y_X0_readSemicolon m_X0_75 rfl rfl e71 (t_x0_readSemicolon (l := l) (G := G) e69) rfl rfl (Nat.le_of_ble_eq_true rfl) (by decide) ?_
        by_cases c72 : bz r67
        · rw [if_pos c72] at E
          cases E
          exact r_zret X hr c72 dX0_readHiker_94 (by decide) (by decide)
        · rw [if_neg c72] at E; cases E
      · rw [if_pos c50] at E
        refine r_iconst X (v := 0) dX0_readHiker_70 (by decide) ?_
        cases E
        exact r_zret X hr (Or.inl rfl) dX0_readHiker_71 (by decide) (by decide)
    · rw [if_pos c28] at E
      refine r_iconst X (v := 0) dX0_readHiker_40 (by decide) ?_
      cases E
      exact r_zret X hr (Or.inl rfl) dX0_readHiker_41 (by decide) (by decide)
  · rw [if_pos c6] at E
    refine r_iconst X (v := 0) dX0_readHiker_10 (by decide) ?_
    cases E
    exact r_zret X hr (Or.inl rfl) dX0_readHiker_11 (by decide) (by decide)
theorem t_x0_readHiker {l : Launch} {G : GG} {p : Nat} {b0 : Nat} {g : AH} {r : Int32} {g1 : AH} (E : x0_readHiker p b0 g = some (r, g1)) : Ct l G yX0_readHiker cX0_readHiker 2 (some .boolean) ⟨5, 0, 0, 194⟩ [.ref p, .ref b0] g (some (.int r)) g1 :=
  ct_of (L0 := [(0, .ref p), (1, .ref b0)]) y_X0_readHiker rfl (Nat.le_of_ble_eq_true rfl) fun M hl0 X hr hnm => t_x0_readHiker_b X hl0 hr hnm E
set_option maxHeartbeats 4000000 in
set_option maxRecDepth 100000 in
theorem t_x0_readHikers_j29_2 {l : Launch} {G : GG} {M : MC} (X : CX M G cX0_readHikers 3 RX0 ⟨9, 0, 0, 264⟩) (hl0 : M.2.1 = l) (hr : (mM M).sig.returnType = (some .boolean)) (hnm : (mM M).name = yX0_readHikers.name) {Q : State → Prop} {kc ks : Nat} {s9 : ((Int32) ⊕ ((Unit) ⊕ Int32))} {g1 : AH} {a0 : Nat} {a1 : Nat} {a2 : Int32} (hc : ∀ s1, s9 = .inl s1 → WW M G 3 Q kc ks g1 2 [(0, .ref a0), (1, .ref a1), (2, .int s1)] []) (hx : ∀ t, s9 = .inr t → Sum.elim (fun t1 => WW M G 3 Q kc ks g1 87 [] []) (fun t2 => ∃ mc ms : Nat, kc ≤ mc ∧ ks ≤ ms ∧ Q = RQ M G (some (.int t2)) g1 mc ms) t) {g : AH} (E : x0_readHikers_j29_2 a0 a1 a2 g = some (s9, g1)) : WW M G 3 Q kc ks g 29 [(0, .ref a0), (1, .ref a1), (2, .int a2)] [] := by
  unfold x0_readHikers_j29_2 at E
  refine r_aload_n X 0 dX0_readHikers_29 rfl rfl ?_
  obtain ⟨x1, e2, E⟩ := gb_some E
  refine r_getR X dX0_readHikers_30 f_X0_12 e2 ?_
  refine r_ldcS X dX0_readHikers_33 (List.mem_of_getElem? (i := 16) rfl) ?_
  obtain ⟨u6, e7, E⟩ := gb_some E
  obtain ⟨r3, g4, e5, E⟩ := cb_some E
  refine r_callV0 X hl0 (ci := 7) dX0_readHikers_35 y_X7_isWord m_X0_122 rfl rfl e7 (t_x7_isWord (l := l) (G := G) e5) rfl rfl (Nat.le_of_ble_eq_true rfl) (by decide) ?_
  refine r_if_ne X 47 dX0_readHikers_38 (by decide) (fun c8 => ?_) (fun c8 => ?_)
  · rw [if_neg c8] at E
    refine r_iload_n X 2 dX0_readHikers_47 rfl rfl ?_
    refine r_bipush X (v := 10) dX0_readHikers_48 (by decide) ?_
    refine r_icmp_lt X 59 dX0_readHikers_50 (by decide) (fun c9 => ?_) (fun c9 => ?_)
    · rw [if_pos c9] at E
      refine r_aload_n X 0 dX0_readHikers_59 rfl rfl ?_
      obtain ⟨x10, e11, E⟩ := gb_some E
      refine r_getR X dX0_readHikers_60 f_X0_12 e11 ?_
      obtain ⟨u15, e16, E⟩ := gb_some E
      obtain ⟨r12, g13, e14, E⟩ := cb_some E
      refine r_callV0 X hl0 (ci := 7) dX0_readHikers_63 y_X7_readNext m_X0_72 rfl rfl e16 (t_x7_readNext (l := l) (G := G) e14) rfl rfl (Nat.le_of_ble_eq_true rfl) (by decide) ?_
      refine r_aload_n X 0 dX0_readHikers_66 rfl rfl ?_
      refine r_aload_n X 1 dX0_readHikers_67 rfl rfl ?_
      obtain ⟨x17, e18, E⟩ := gb_some E
      refine r_getR X dX0_readHikers_68 f_X0_125 e18 ?_
      refine r_iload_n X 2 dX0_readHikers_71 rfl rfl ?_
      obtain ⟨x19, e20, E⟩ := gb_some E
      refine r_aald X 4 (by decide) rfl dX0_readHikers_72 e20 ?_
      obtain ⟨u24, e25, E⟩ := gb_some E
      obtain ⟨r21, g22, e23, E⟩ := cb_some E
      refine r_callV0 X hl0 (ci := 0) dX0_readHikers_73 y_X0_readHiker m_X0_129 rfl rfl e25 (t_x0_readHiker (l := l) (G := G) e23) rfl rfl (Nat.le_of_ble_eq_true rfl) (by decide) ?_
      refine r_if_ne X 81 dX0_readHikers_76 (by decide) (fun c26 => ?_) (fun c26 => ?_)
      · rw [if_neg c26] at E
        refine r_iinc X (v := (a2 + 1)) (L1 := [(2, .int (a2 + 1)), (0, .ref a0), (1, .ref a1)]) dX0_readHikers_81 rfl rfl (by decide) rfl ?_
        refine r_goto X 2 dX0_readHikers_84 (by decide) ?_
        cases E
        exact r_pick (by rfl : lpick [(2, .int (a2 + 1)), (0, .ref a0), (1, .ref a1)] [1, 2, 0] = _) (hc _ rfl)
      · rw [if_pos c26] at E
        refine r_iconst X (v := 0) dX0_readHikers_79 (by decide) ?_
        cases E
        obtain ⟨mc9, ms9, h91, h92, rfl⟩ := hx _ rfl
        exact r_zret X hr (Or.inl rfl) dX0_readHikers_80 h91 h92
    · rw [if_neg c9] at E
      refine r_aload_n X 0 dX0_readHikers_53 rfl rfl ?_
      refine r_iconst X (v := 3) dX0_readHikers_54 (by decide) ?_
      obtain ⟨u30, e31, E⟩ := gb_some E
      obtain ⟨r27, g28, e29, E⟩ := cb_some E
      refine r_callV0 X hl0 (ci := 0) dX0_readHikers_55 y_X0_fail m_X0_113 rfl rfl e31 (t_x0_fail (l := l) (G := G) e29) rfl rfl (Nat.le_of_ble_eq_true rfl) (by decide) ?_
      by_cases c32 : bz r27
      · rw [if_pos c32] at E
        cases E
        obtain ⟨mc9, ms9, h91, h92, rfl⟩ := hx _ rfl
        exact r_zret X hr c32 dX0_readHikers_58 h91 h92
      · rw [if_neg c32] at E; cases E
  · rw [if_pos c8] at E
    refine r_aload_n X 0 dX0_readHikers_41 rfl rfl ?_
    refine r_iconst X (v := 1) dX0_readHikers_42 (by decide) ?_
    obtain ⟨u36, e37, E⟩ := gb_some E
    obtain ⟨r33, g34, e35, E⟩ := cb_some E
    refine r_callV0 X hl0 (ci := 0) dX0_readHikers_43 y_X0_fail m_X0_113 rfl rfl e37 (t_x0_fail (l := l) (G := G) e35) rfl rfl (Nat.le_of_ble_eq_true rfl) (by decide) ?_
    by_cases c38 : bz r33
    · rw [if_pos c38] at E
      cases E
      obtain ⟨mc9, ms9, h91, h92, rfl⟩ := hx _ rfl
      exact r_zret X hr c38 dX0_readHikers_46 h91 h92
    · rw [if_neg c38] at E; cases E
set_option maxHeartbeats 4000000 in
set_option maxRecDepth 100000 in
theorem t_x0_readHikers_l2 {l : Launch} {G : GG} {M : MC} (X : CX M G cX0_readHikers 3 RX0 ⟨9, 0, 0, 264⟩) (hl0 : M.2.1 = l) (hr : (mM M).sig.returnType = (some .boolean)) (hnm : (mM M).name = yX0_readHikers.name) {Q : State → Prop} {kc ks : Nat} {s9 : ((Int32) ⊕ ((Unit) ⊕ Int32))} {g1 : AH} {a0 : Nat} {a1 : Nat} {s0 : Int32} (hc : ∀ s1, s9 = .inl s1 → WW M G 3 Q kc ks g1 2 [(0, .ref a0), (1, .ref a1), (2, .int s1)] []) (hx : ∀ t, s9 = .inr t → Sum.elim (fun t1 => WW M G 3 Q kc ks g1 87 [] []) (fun t2 => ∃ mc ms : Nat, kc ≤ mc ∧ ks ≤ ms ∧ Q = RQ M G (some (.int t2)) g1 mc ms) t) {g : AH} (E : x0_readHikers_l2 a0 a1 s0 g = some (s9, g1)) : WW M G 3 Q kc ks g 2 [(0, .ref a0), (1, .ref a1), (2, .int s0)] [] := by
  unfold x0_readHikers_l2 at E
  refine r_iload_n X 2 dX0_readHikers_2 rfl rfl ?_
  refine r_bipush X (v := 10) dX0_readHikers_3 (by decide) ?_
  refine r_icmp_gt X 87 dX0_readHikers_5 (by decide) (fun c1 => ?_) (fun c1 => ?_)
  · rw [if_pos c1] at E
    cases E
    exact r_pick (by rfl : lpick [(0, .ref a0), (1, .ref a1), (2, .int s0)] [] = _) (hx _ rfl)
  · rw [if_neg c1] at E
    refine r_iload_n X 2 dX0_readHikers_8 rfl rfl ?_
    refine r_if_le X 29 dX0_readHikers_9 (by decide) (fun c2 => ?_) (fun c2 => ?_)
    · rw [if_pos c2] at E
      exact r_pick (by rfl : lpick [(0, .ref a0), (1, .ref a1), (2, .int s0)] [0, 1, 2] = _) (t_x0_readHikers_j29_2 X hl0 hr hnm hc hx E)
    · rw [if_neg c2] at E
      refine r_aload_n X 0 dX0_readHikers_12 rfl rfl ?_
      obtain ⟨x3, e4, E⟩ := gb_some E
      refine r_getR X dX0_readHikers_13 f_X0_12 e4 ?_
      obtain ⟨x5, e6, E⟩ := gb_some E
      refine r_getI X dX0_readHikers_16 f_X0_110 e6 ?_
      refine r_if_ne X 29 dX0_readHikers_19 (by decide) (fun c7 => ?_) (fun c7 => ?_)
      · rw [if_neg c7] at E
        exact r_pick (by rfl : lpick [(0, .ref a0), (1, .ref a1), (2, .int s0)] [0, 1, 2] = _) (t_x0_readHikers_j29_2 X hl0 hr hnm hc hx E)
      · rw [if_pos c7] at E
        refine r_aload_n X 1 dX0_readHikers_22 rfl rfl ?_
        refine r_iload_n X 2 dX0_readHikers_23 rfl rfl ?_
        obtain ⟨g8, e9, E⟩ := gb_some E
        refine r_put X dX0_readHikers_24 f_X0_117 rfl rfl e9 ?_
        refine r_iconst X (v := 1) dX0_readHikers_27 (by decide) ?_
        cases E
        obtain ⟨mc9, ms9, h91, h92, rfl⟩ := hx _ rfl
        exact r_zret X hr (Or.inr rfl) dX0_readHikers_28 h91 h92
set_option maxHeartbeats 4000000 in
theorem t_x0_readHikers_l2_r {l : Launch} {G : GG} {M : MC} (X : CX M G cX0_readHikers 3 RX0 ⟨9, 0, 0, 264⟩) (hl0 : M.2.1 = l) (hr : (mM M).sig.returnType = (some .boolean)) (hnm : (mM M).name = yX0_readHikers.name) {Q : State → Prop} {kc ks : Nat} {a0 : Nat} {a1 : Nat} : ∀ (n : Nat) (s0 : Int32) (g : AH) (t : ((Unit) ⊕ Int32)) (g1 : AH), loopX (x0_readHikers_l2 a0 a1) n s0 g = some (t, g1) → Sum.elim (fun t1 => WW M G 3 Q kc ks g1 87 [] []) (fun t2 => ∃ mc ms : Nat, kc ≤ mc ∧ ks ≤ ms ∧ Q = RQ M G (some (.int t2)) g1 mc ms) t → WW M G 3 Q kc ks g 2 [(0, .ref a0), (1, .ref a1), (2, .int s0)] [] :=
  loop_cps (K := fun t g1 => Sum.elim (fun t1 => WW M G 3 Q kc ks g1 87 [] []) (fun t2 => ∃ mc ms : Nat, kc ≤ mc ∧ ks ≤ ms ∧ Q = RQ M G (some (.int t2)) g1 mc ms) t) (fun _ s0 g => WW M G 3 Q kc ks g 2 [(0, .ref a0), (1, .ref a1), (2, .int s0)] []) (fun n s0 g st g1 E hc hx => t_x0_readHikers_l2 X hl0 hr hnm hc hx E)
set_option maxHeartbeats 4000000 in
set_option maxRecDepth 100000 in
theorem t_x0_readHikers_b {l : Launch} {G : GG} {M : MC} (X : CX M G cX0_readHikers 3 RX0 ⟨9, 0, 0, 264⟩) (hl0 : M.2.1 = l) (hr : (mM M).sig.returnType = (some .boolean)) (hnm : (mM M).name = yX0_readHikers.name) {p : Nat} {b0 : Nat} {g : AH} {r : Int32} {g1 : AH} (E : x0_readHikers p b0 g = some (r, g1)) : WW M G 3 (RQ M G (some (.int r)) g1 0 0) 0 0 g 0 [(0, .ref p), (1, .ref b0)] [] := by
  unfold x0_readHikers at E
  refine r_iconst X (v := 0) dX0_readHikers_0 (by decide) ?_
  refine r_istore_n X 2 (L1 := [(2, .int 0), (0, .ref p), (1, .ref b0)]) dX0_readHikers_1 rfl (by decide) rfl ?_
  obtain ⟨t1, g2, e3, E⟩ := cb_some E
  rcases t1 with t4 | t5
  · rw [Sum.elim_inl] at E
    refine r_pick (by rfl : lpick [(2, .int 0), (0, .ref p), (1, .ref b0)] [1, 2, 0] = _) (t_x0_readHikers_l2_r X hl0 hr hnm _ _ _ _ _ e3 ?_)
    refine r_iconst X (v := 0) dX0_readHikers_87 (by decide) ?_
    cases E
    exact r_zret X hr (Or.inl rfl) dX0_readHikers_88 (by decide) (by decide)
  · rw [Sum.elim_inr] at E
    cases E
    exact r_pick (by rfl : lpick [(2, .int 0), (0, .ref p), (1, .ref b0)] [1, 2, 0] = _) (t_x0_readHikers_l2_r X hl0 hr hnm _ _ _ _ _ e3 ⟨_, _, by decide, by decide, rfl⟩)
theorem t_x0_readHikers {l : Launch} {G : GG} {p : Nat} {b0 : Nat} {g : AH} {r : Int32} {g1 : AH} (E : x0_readHikers p b0 g = some (r, g1)) : Ct l G yX0_readHikers cX0_readHikers 3 (some .boolean) ⟨9, 0, 0, 264⟩ [.ref p, .ref b0] g (some (.int r)) g1 :=
  ct_of (L0 := [(0, .ref p), (1, .ref b0)]) y_X0_readHikers rfl (Nat.le_of_ble_eq_true rfl) fun M hl0 X hr hnm => t_x0_readHikers_b X hl0 hr hnm E
set_option maxHeartbeats 4000000 in
set_option maxRecDepth 100000 in
theorem t_x3_sumOfCoins_l4 {l : Launch} {G : GG} {M : MC} (X : CX M G cX3_sumOfCoins 3 RX3 ⟨1, 0, 0, 60⟩) (hl0 : M.2.1 = l) (hr : (mM M).sig.returnType = (some .int)) (hnm : (mM M).name = yX3_sumOfCoins.name) {Q : State → Prop} {kc ks : Nat} {s9 : ((Int32 × Int32) ⊕ (Int32))} {g1 : AH} {a0 : Nat} {s0 : Int32 × Int32} (hc : ∀ s1, s9 = .inl s1 → WW M G 3 Q kc ks g1 4 [(0, .ref a0), (1, .int s1.1), (2, .int s1.2)] []) (hx : ∀ t, s9 = .inr t → WW M G 3 Q kc ks g1 30 [(1, .int t)] []) {g : AH} (E : x3_sumOfCoins_l4 a0 s0 g = some (s9, g1)) : WW M G 3 Q kc ks g 4 [(0, .ref a0), (1, .int s0.1), (2, .int s0.2)] [] := by
  unfold x3_sumOfCoins_l4 at E
  refine r_iload_n X 2 dX3_sumOfCoins_4 rfl rfl ?_
  refine r_aload_n X 0 dX3_sumOfCoins_5 rfl rfl ?_
  obtain ⟨x1, e2, E⟩ := gb_some E
  refine r_getI X dX3_sumOfCoins_6 f_X3_78 e2 ?_
  refine r_icmp_ge X 30 dX3_sumOfCoins_9 (by decide) (fun c3 => ?_) (fun c3 => ?_)
  · rw [if_pos c3] at E
    cases E
    exact r_pick (by rfl : lpick [(0, .ref a0), (1, .int s0.1), (2, .int s0.2)] [1] = _) (hx _ rfl)
  · rw [if_neg c3] at E
    refine r_iload_n X 1 dX3_sumOfCoins_12 rfl rfl ?_
    refine r_aload_n X 0 dX3_sumOfCoins_13 rfl rfl ?_
    obtain ⟨x4, e5, E⟩ := gb_some E
    refine r_getR X dX3_sumOfCoins_14 f_X3_29 e5 ?_
    refine r_iload_n X 2 dX3_sumOfCoins_17 rfl rfl ?_
    obtain ⟨x6, e7, E⟩ := gb_some E
    refine r_aald X 4 (by decide) rfl dX3_sumOfCoins_18 e7 ?_
    obtain ⟨x8, e9, E⟩ := gb_some E
    refine r_getI X dX3_sumOfCoins_19 f_X3_188 e9 ?_
    refine r_iadd X dX3_sumOfCoins_22 ?_
    refine r_istore_n X 1 (L1 := [(1, .int (s0.1 + x8)), (0, .ref a0), (2, .int s0.2)]) dX3_sumOfCoins_23 rfl (by decide) rfl ?_
    refine r_iinc X (v := (s0.2 + 1)) (L1 := [(2, .int (s0.2 + 1)), (1, .int (s0.1 + x8)), (0, .ref a0)]) dX3_sumOfCoins_24 rfl rfl (by decide) rfl ?_
    refine r_goto X 4 dX3_sumOfCoins_27 (by decide) ?_
    cases E
    exact r_pick (by rfl : lpick [(2, .int (s0.2 + 1)), (1, .int (s0.1 + x8)), (0, .ref a0)] [2, 1, 0] = _) (hc _ rfl)
set_option maxHeartbeats 4000000 in
theorem t_x3_sumOfCoins_l4_r {l : Launch} {G : GG} {M : MC} (X : CX M G cX3_sumOfCoins 3 RX3 ⟨1, 0, 0, 60⟩) (hl0 : M.2.1 = l) (hr : (mM M).sig.returnType = (some .int)) (hnm : (mM M).name = yX3_sumOfCoins.name) {Q : State → Prop} {kc ks : Nat} {a0 : Nat} : ∀ (n : Nat) (s0 : Int32 × Int32) (g : AH) (t : (Int32)) (g1 : AH), loopX (x3_sumOfCoins_l4 a0) n s0 g = some (t, g1) → WW M G 3 Q kc ks g1 30 [(1, .int t)] [] → WW M G 3 Q kc ks g 4 [(0, .ref a0), (1, .int s0.1), (2, .int s0.2)] [] :=
  loop_cps (K := fun t g1 => WW M G 3 Q kc ks g1 30 [(1, .int t)] []) (fun _ s0 g => WW M G 3 Q kc ks g 4 [(0, .ref a0), (1, .int s0.1), (2, .int s0.2)] []) (fun n s0 g st g1 E hc hx => t_x3_sumOfCoins_l4 X hl0 hr hnm hc hx E)
set_option maxHeartbeats 4000000 in
set_option maxRecDepth 100000 in
theorem t_x3_sumOfCoins_b {l : Launch} {G : GG} {M : MC} (X : CX M G cX3_sumOfCoins 3 RX3 ⟨1, 0, 0, 60⟩) (hl0 : M.2.1 = l) (hr : (mM M).sig.returnType = (some .int)) (hnm : (mM M).name = yX3_sumOfCoins.name) {p : Nat} {g : AH} {r : Int32} {g1 : AH} (E : x3_sumOfCoins p g = some (r, g1)) : WW M G 3 (RQ M G (some (.int r)) g1 0 0) 0 0 g 0 [(0, .ref p)] [] := by
  unfold x3_sumOfCoins at E
  refine r_iconst X (v := 0) dX3_sumOfCoins_0 (by decide) ?_
  refine r_istore_n X 1 (L1 := [(1, .int 0), (0, .ref p)]) dX3_sumOfCoins_1 rfl (by decide) rfl ?_
  refine r_iconst X (v := 0) dX3_sumOfCoins_2 (by decide) ?_
  refine r_istore_n X 2 (L1 := [(2, .int 0), (1, .int 0), (0, .ref p)]) dX3_sumOfCoins_3 rfl (by decide) rfl ?_
  obtain ⟨t1, g2, e3, E⟩ := cb_some E
  refine r_pick (by rfl : lpick [(2, .int 0), (1, .int 0), (0, .ref p)] [2, 1, 0] = _) (t_x3_sumOfCoins_l4_r X hl0 hr hnm _ _ _ _ _ e3 ?_)
  refine r_iload_n X 1 dX3_sumOfCoins_30 rfl rfl ?_
  cases E
  exact r_iret X hr dX3_sumOfCoins_31 (by decide) (by decide)
theorem t_x3_sumOfCoins {l : Launch} {G : GG} {p : Nat} {g : AH} {r : Int32} {g1 : AH} (E : x3_sumOfCoins p g = some (r, g1)) : Ct l G yX3_sumOfCoins cX3_sumOfCoins 3 (some .int) ⟨1, 0, 0, 60⟩ [.ref p] g (some (.int r)) g1 :=
  ct_of (L0 := [(0, .ref p)]) y_X3_sumOfCoins rfl (Nat.le_of_ble_eq_true rfl) fun M hl0 X hr hnm => t_x3_sumOfCoins_b X hl0 hr hnm E
set_option maxHeartbeats 4000000 in
set_option maxRecDepth 100000 in
theorem t_x3_temperatureInside_j26 {l : Launch} {G : GG} {M : MC} (X : CX M G cX3_temperatureInside 2 RX3 ⟨1, 0, 0, 60⟩) (hl0 : M.2.1 = l) (hr : (mM M).sig.returnType = (some .int)) (hnm : (mM M).name = yX3_temperatureInside.name) {a0 : Nat} {s0 : Int32} {g : AH} {r : Int32} {g1 : AH} (E : x3_temperatureInside_j26 a0 s0 g = some (r, g1)) : WW M G 2 (RQ M G (some (.int r)) g1 0 0) 0 0 g 26 [(0, .ref a0)] [.int s0] := by
  unfold x3_temperatureInside_j26 at E
  refine r_istore_n X 1 (L1 := [(1, .int s0), (0, .ref a0)]) dX3_temperatureInside_26 rfl (by decide) rfl ?_
  refine r_iload_n X 1 dX3_temperatureInside_27 rfl rfl ?_
  refine r_aload_n X 0 dX3_temperatureInside_28 rfl rfl ?_
  obtain ⟨x1, e2, E⟩ := gb_some E
  refine r_getI X dX3_temperatureInside_29 f_X3_54 e2 ?_
  refine r_iadd X dX3_temperatureInside_32 ?_
  cases E
  exact r_iret X hr dX3_temperatureInside_33 (by decide) (by decide)
set_option maxHeartbeats 4000000 in
set_option maxRecDepth 100000 in
theorem t_x3_temperatureInside_b {l : Launch} {G : GG} {M : MC} (X : CX M G cX3_temperatureInside 2 RX3 ⟨1, 0, 0, 60⟩) (hl0 : M.2.1 = l) (hr : (mM M).sig.returnType = (some .int)) (hnm : (mM M).name = yX3_temperatureInside.name) {p : Nat} {g : AH} {r : Int32} {g1 : AH} (E : x3_temperatureInside p g = some (r, g1)) : WW M G 2 (RQ M G (some (.int r)) g1 0 0) 0 0 g 0 [(0, .ref p)] [] := by
  unfold x3_temperatureInside at E
  refine r_aload_n X 0 dX3_temperatureInside_0 rfl rfl ?_
  obtain ⟨x1, e2, E⟩ := gb_some E
  refine r_getI X dX3_temperatureInside_1 f_X3_75 e2 ?_
  refine r_iconst X (v := 1) dX3_temperatureInside_4 (by decide) ?_
  refine r_icmp_ge X 12 dX3_temperatureInside_5 (by decide) (fun c3 => ?_) (fun c3 => ?_)
  · rw [if_pos c3] at E
    refine r_aload_n X 0 dX3_temperatureInside_12 rfl rfl ?_
    obtain ⟨x4, e5, E⟩ := gb_some E
    refine r_getR X dX3_temperatureInside_13 f_X3_18 e5 ?_
    refine r_aload_n X 0 dX3_temperatureInside_16 rfl rfl ?_
    obtain ⟨x6, e7, E⟩ := gb_some E
    refine r_getI X dX3_temperatureInside_17 f_X3_51 e7 ?_
    refine r_aload_n X 0 dX3_temperatureInside_20 rfl rfl ?_
    obtain ⟨x8, e9, E⟩ := gb_some E
    refine r_getI X dX3_temperatureInside_21 f_X3_75 e9 ?_
    by_cases c10 : x8 = 0
    · rw [if_pos c10] at E; cases E
    rw [if_neg c10] at E
    refine r_irem X dX3_temperatureInside_24 c10 ?_
    obtain ⟨x11, e12, E⟩ := gb_some E
    refine r_iald X dX3_temperatureInside_25 e12 ?_
    exact r_pick (by rfl : lpick [(0, .ref p)] [0] = _) (t_x3_temperatureInside_j26 X hl0 hr hnm E)
  · rw [if_neg c3] at E
    refine r_iconst X (v := 0) dX3_temperatureInside_8 (by decide) ?_
    refine r_goto X 26 dX3_temperatureInside_9 (by decide) ?_
    exact r_pick (by rfl : lpick [(0, .ref p)] [0] = _) (t_x3_temperatureInside_j26 X hl0 hr hnm E)
theorem t_x3_temperatureInside {l : Launch} {G : GG} {p : Nat} {g : AH} {r : Int32} {g1 : AH} (E : x3_temperatureInside p g = some (r, g1)) : Ct l G yX3_temperatureInside cX3_temperatureInside 2 (some .int) ⟨1, 0, 0, 60⟩ [.ref p] g (some (.int r)) g1 :=
  ct_of (L0 := [(0, .ref p)]) y_X3_temperatureInside rfl (Nat.le_of_ble_eq_true rfl) fun M hl0 X hr hnm => t_x3_temperatureInside_b X hl0 hr hnm E
set_option maxHeartbeats 4000000 in
set_option maxRecDepth 100000 in
theorem t_x3_hasBlanket_b {l : Launch} {G : GG} {M : MC} (X : CX M G cX3_hasBlanket 2 RX3 ⟨1, 0, 0, 60⟩) (hl0 : M.2.1 = l) (hr : (mM M).sig.returnType = (some .boolean)) (hnm : (mM M).name = yX3_hasBlanket.name) {p : Nat} {b0 : Int32} {g : AH} {r : Int32} {g1 : AH} (E : x3_hasBlanket p b0 g = some (r, g1)) : WW M G 2 (RQ M G (some (.int r)) g1 0 0) 0 0 g 0 [(0, .ref p), (1, .int b0)] [] := by
  unfold x3_hasBlanket at E
  refine r_iconst X (v := 0) dX3_hasBlanket_0 (by decide) ?_
  refine r_iload_n X 1 dX3_hasBlanket_1 rfl rfl ?_
  refine r_icmp_gt X 17 dX3_hasBlanket_2 (by decide) (fun c1 => ?_) (fun c1 => ?_)
  · rw [if_pos c1] at E
    refine r_iconst X (v := 0) dX3_hasBlanket_17 (by decide) ?_
    cases E
    exact r_zret X hr (Or.inl rfl) dX3_hasBlanket_18 (by decide) (by decide)
  · rw [if_neg c1] at E
    refine r_iload_n X 1 dX3_hasBlanket_5 rfl rfl ?_
    refine r_aload_n X 0 dX3_hasBlanket_6 rfl rfl ?_
    obtain ⟨x2, e3, E⟩ := gb_some E
    refine r_getI X dX3_hasBlanket_7 f_X3_72 e3 ?_
    refine r_icmp_ge X 17 dX3_hasBlanket_10 (by decide) (fun c4 => ?_) (fun c4 => ?_)
    · rw [if_pos c4] at E
      refine r_iconst X (v := 0) dX3_hasBlanket_17 (by decide) ?_
      cases E
      exact r_zret X hr (Or.inl rfl) dX3_hasBlanket_18 (by decide) (by decide)
    · rw [if_neg c4] at E
      refine r_iconst X (v := 1) dX3_hasBlanket_13 (by decide) ?_
      refine r_goto X 18 dX3_hasBlanket_14 (by decide) ?_
      cases E
      exact r_zret X hr (Or.inr rfl) dX3_hasBlanket_18 (by decide) (by decide)
theorem t_x3_hasBlanket {l : Launch} {G : GG} {p : Nat} {b0 : Int32} {g : AH} {r : Int32} {g1 : AH} (E : x3_hasBlanket p b0 g = some (r, g1)) : Ct l G yX3_hasBlanket cX3_hasBlanket 2 (some .boolean) ⟨1, 0, 0, 60⟩ [.ref p, .int b0] g (some (.int r)) g1 :=
  ct_of (L0 := [(0, .ref p), (1, .int b0)]) y_X3_hasBlanket rfl (Nat.le_of_ble_eq_true rfl) fun M hl0 X hr hnm => t_x3_hasBlanket_b X hl0 hr hnm E
set_option maxHeartbeats 4000000 in
set_option maxRecDepth 100000 in
theorem t_x3_hasBunk_b {l : Launch} {G : GG} {M : MC} (X : CX M G cX3_hasBunk 2 RX3 ⟨1, 0, 0, 60⟩) (hl0 : M.2.1 = l) (hr : (mM M).sig.returnType = (some .boolean)) (hnm : (mM M).name = yX3_hasBunk.name) {p : Nat} {b0 : Int32} {g : AH} {r : Int32} {g1 : AH} (E : x3_hasBunk p b0 g = some (r, g1)) : WW M G 2 (RQ M G (some (.int r)) g1 0 0) 0 0 g 0 [(0, .ref p), (1, .int b0)] [] := by
  unfold x3_hasBunk at E
  refine r_iconst X (v := 0) dX3_hasBunk_0 (by decide) ?_
  refine r_iload_n X 1 dX3_hasBunk_1 rfl rfl ?_
  refine r_icmp_gt X 17 dX3_hasBunk_2 (by decide) (fun c1 => ?_) (fun c1 => ?_)
  · rw [if_pos c1] at E
    refine r_iconst X (v := 0) dX3_hasBunk_17 (by decide) ?_
    cases E
    exact r_zret X hr (Or.inl rfl) dX3_hasBunk_18 (by decide) (by decide)
  · rw [if_neg c1] at E
    refine r_iload_n X 1 dX3_hasBunk_5 rfl rfl ?_
    refine r_aload_n X 0 dX3_hasBunk_6 rfl rfl ?_
    obtain ⟨x2, e3, E⟩ := gb_some E
    refine r_getI X dX3_hasBunk_7 f_X3_69 e3 ?_
    refine r_icmp_ge X 17 dX3_hasBunk_10 (by decide) (fun c4 => ?_) (fun c4 => ?_)
    · rw [if_pos c4] at E
      refine r_iconst X (v := 0) dX3_hasBunk_17 (by decide) ?_
      cases E
      exact r_zret X hr (Or.inl rfl) dX3_hasBunk_18 (by decide) (by decide)
    · rw [if_neg c4] at E
      refine r_iconst X (v := 1) dX3_hasBunk_13 (by decide) ?_
      refine r_goto X 18 dX3_hasBunk_14 (by decide) ?_
      cases E
      exact r_zret X hr (Or.inr rfl) dX3_hasBunk_18 (by decide) (by decide)
theorem t_x3_hasBunk {l : Launch} {G : GG} {p : Nat} {b0 : Int32} {g : AH} {r : Int32} {g1 : AH} (E : x3_hasBunk p b0 g = some (r, g1)) : Ct l G yX3_hasBunk cX3_hasBunk 2 (some .boolean) ⟨1, 0, 0, 60⟩ [.ref p, .int b0] g (some (.int r)) g1 :=
  ct_of (L0 := [(0, .ref p), (1, .int b0)]) y_X3_hasBunk rfl (Nat.le_of_ble_eq_true rfl) fun M hl0 X hr hnm => t_x3_hasBunk_b X hl0 hr hnm E
set_option maxHeartbeats 4000000 in
set_option maxRecDepth 100000 in
theorem t_x3_warmthOfBunk_j49 {l : Launch} {G : GG} {M : MC} (X : CX M G cX3_warmthOfBunk 5 RX3 ⟨2, 0, 0, 81⟩) (hl0 : M.2.1 = l) (hr : (mM M).sig.returnType = (some .int)) (hnm : (mM M).name = yX3_warmthOfBunk.name) {a0 : Nat} {a1 : Int32} {a3 : Int32} {s0 : Int32} {g : AH} {r : Int32} {g1 : AH} (E : x3_warmthOfBunk_j49 a0 a1 a3 s0 g = some (r, g1)) : WW M G 5 (RQ M G (some (.int r)) g1 0 0) 0 0 g 49 [(0, .ref a0), (1, .int a1), (3, .int a3)] [.int s0] := by
  unfold x3_warmthOfBunk_j49 at E
  refine r_istore X (L1 := [(4, .int s0), (0, .ref a0), (1, .int a1), (3, .int a3)]) dX3_warmthOfBunk_49 (by decide) rfl ?_
  refine r_aload_n X 0 dX3_warmthOfBunk_51 rfl rfl ?_
  obtain ⟨x1, e2, E⟩ := gb_some E
  refine r_getR X dX3_warmthOfBunk_52 f_X3_9 e2 ?_
  refine r_iload_n X 1 dX3_warmthOfBunk_55 rfl rfl ?_
  obtain ⟨x3, e4, E⟩ := gb_some E
  refine r_iald X dX3_warmthOfBunk_56 e4 ?_
  refine r_iload_n X 3 dX3_warmthOfBunk_57 rfl rfl ?_
  refine r_iadd X dX3_warmthOfBunk_58 ?_
  refine r_iload X dX3_warmthOfBunk_59 rfl ?_
  refine r_iadd X dX3_warmthOfBunk_61 ?_
  cases E
  exact r_iret X hr dX3_warmthOfBunk_62 (by decide) (by decide)
set_option maxHeartbeats 4000000 in
set_option maxRecDepth 100000 in
theorem t_x3_warmthOfBunk_j31 {l : Launch} {G : GG} {M : MC} (X : CX M G cX3_warmthOfBunk 5 RX3 ⟨2, 0, 0, 81⟩) (hl0 : M.2.1 = l) (hr : (mM M).sig.returnType = (some .int)) (hnm : (mM M).name = yX3_warmthOfBunk.name) {a0 : Nat} {a1 : Int32} {a2 : Int32} {s0 : Int32} {g : AH} {r : Int32} {g1 : AH} (E : x3_warmthOfBunk_j31 a0 a1 a2 s0 g = some (r, g1)) : WW M G 5 (RQ M G (some (.int r)) g1 0 0) 0 0 g 31 [(0, .ref a0), (1, .int a1), (2, .int a2)] [.int s0] := by
  unfold x3_warmthOfBunk_j31 at E
  refine r_istore_n X 3 (L1 := [(3, .int s0), (0, .ref a0), (1, .int a1), (2, .int a2)]) dX3_warmthOfBunk_31 rfl (by decide) rfl ?_
  refine r_aload_n X 0 dX3_warmthOfBunk_32 rfl rfl ?_
  obtain ⟨x1, e2, E⟩ := gb_some E
  refine r_getR X dX3_warmthOfBunk_33 f_X3_21 e2 ?_
  refine r_iload_n X 2 dX3_warmthOfBunk_36 rfl rfl ?_
  refine r_iconst X (v := 1) dX3_warmthOfBunk_37 (by decide) ?_
  refine r_iadd X dX3_warmthOfBunk_38 ?_
  obtain ⟨x3, e4, E⟩ := gb_some E
  refine r_iald X dX3_warmthOfBunk_39 e4 ?_
  refine r_iconst X (v := (-1)) dX3_warmthOfBunk_40 (by decide) ?_
  refine r_icmp_ne X 48 dX3_warmthOfBunk_41 (by decide) (fun c5 => ?_) (fun c5 => ?_)
  · rw [if_neg c5] at E
    refine r_iconst X (v := 1) dX3_warmthOfBunk_48 (by decide) ?_
    exact r_pick (by rfl : lpick [(3, .int s0), (0, .ref a0), (1, .int a1), (2, .int a2)] [1, 2, 0] = _) (t_x3_warmthOfBunk_j49 X hl0 hr hnm E)
  · rw [if_pos c5] at E
    refine r_iconst X (v := 0) dX3_warmthOfBunk_44 (by decide) ?_
    refine r_goto X 49 dX3_warmthOfBunk_45 (by decide) ?_
    exact r_pick (by rfl : lpick [(3, .int s0), (0, .ref a0), (1, .int a1), (2, .int a2)] [1, 2, 0] = _) (t_x3_warmthOfBunk_j49 X hl0 hr hnm E)
set_option maxHeartbeats 4000000 in
set_option maxRecDepth 100000 in
theorem t_x3_warmthOfBunk_b {l : Launch} {G : GG} {M : MC} (X : CX M G cX3_warmthOfBunk 5 RX3 ⟨2, 0, 0, 81⟩) (hl0 : M.2.1 = l) (hr : (mM M).sig.returnType = (some .int)) (hnm : (mM M).name = yX3_warmthOfBunk.name) {p : Nat} {b0 : Int32} {g : AH} {r : Int32} {g1 : AH} (E : x3_warmthOfBunk p b0 g = some (r, g1)) : WW M G 5 (RQ M G (some (.int r)) g1 0 0) 0 0 g 0 [(0, .ref p), (1, .int b0)] [] := by
  unfold x3_warmthOfBunk at E
  refine r_aload_n X 0 dX3_warmthOfBunk_0 rfl rfl ?_
  refine r_iload_n X 1 dX3_warmthOfBunk_1 rfl rfl ?_
  obtain ⟨u4, e5, E⟩ := gb_some E
  obtain ⟨r1, g2, e3, E⟩ := cb_some E
  refine r_callV0 X hl0 (ci := 3) dX3_warmthOfBunk_2 y_X3_hasBunk m_X3_114 rfl rfl e5 (t_x3_hasBunk (l := l) (G := G) e3) rfl rfl (Nat.le_of_ble_eq_true rfl) (by decide) ?_
  refine r_if_ne X 10 dX3_warmthOfBunk_5 (by decide) (fun c6 => ?_) (fun c6 => ?_)
  · rw [if_neg c6] at E
    refine r_iload_n X 1 dX3_warmthOfBunk_10 rfl rfl ?_
    refine r_iconst X (v := 2) dX3_warmthOfBunk_11 (by decide) ?_
    refine r_iadd X dX3_warmthOfBunk_12 ?_
    refine r_istore_n X 2 (L1 := [(2, .int (b0 + 2)), (0, .ref p), (1, .int b0)]) dX3_warmthOfBunk_13 rfl (by decide) rfl ?_
    refine r_aload_n X 0 dX3_warmthOfBunk_14 rfl rfl ?_
    obtain ⟨x7, e8, E⟩ := gb_some E
    refine r_getR X dX3_warmthOfBunk_15 f_X3_21 e8 ?_
    refine r_iload_n X 2 dX3_warmthOfBunk_18 rfl rfl ?_
    refine r_iconst X (v := 1) dX3_warmthOfBunk_19 (by decide) ?_
    refine r_isub X dX3_warmthOfBunk_20 ?_
    obtain ⟨x9, e10, E⟩ := gb_some E
    refine r_iald X dX3_warmthOfBunk_21 e10 ?_
    refine r_iconst X (v := (-1)) dX3_warmthOfBunk_22 (by decide) ?_
    refine r_icmp_ne X 30 dX3_warmthOfBunk_23 (by decide) (fun c11 => ?_) (fun c11 => ?_)
    · rw [if_neg c11] at E
      refine r_iconst X (v := 1) dX3_warmthOfBunk_30 (by decide) ?_
      exact r_pick (by rfl : lpick [(2, .int (b0 + 2)), (0, .ref p), (1, .int b0)] [1, 2, 0] = _) (t_x3_warmthOfBunk_j31 X hl0 hr hnm E)
    · rw [if_pos c11] at E
      refine r_iconst X (v := 0) dX3_warmthOfBunk_26 (by decide) ?_
      refine r_goto X 31 dX3_warmthOfBunk_27 (by decide) ?_
      exact r_pick (by rfl : lpick [(2, .int (b0 + 2)), (0, .ref p), (1, .int b0)] [1, 2, 0] = _) (t_x3_warmthOfBunk_j31 X hl0 hr hnm E)
  · rw [if_pos c6] at E
    refine r_iconst X (v := 0) dX3_warmthOfBunk_8 (by decide) ?_
    cases E
    exact r_iret X hr dX3_warmthOfBunk_9 (by decide) (by decide)
theorem t_x3_warmthOfBunk {l : Launch} {G : GG} {p : Nat} {b0 : Int32} {g : AH} {r : Int32} {g1 : AH} (E : x3_warmthOfBunk p b0 g = some (r, g1)) : Ct l G yX3_warmthOfBunk cX3_warmthOfBunk 5 (some .int) ⟨2, 0, 0, 81⟩ [.ref p, .int b0] g (some (.int r)) g1 :=
  ct_of (L0 := [(0, .ref p), (1, .int b0)]) y_X3_warmthOfBunk rfl (Nat.le_of_ble_eq_true rfl) fun M hl0 X hr hnm => t_x3_warmthOfBunk_b X hl0 hr hnm E
set_option maxHeartbeats 4000000 in
set_option maxRecDepth 100000 in
theorem t_x1_isCold_b {l : Launch} {G : GG} {M : MC} (X : CX M G cX1_isCold 1 RX1 ⟨1, 0, 0, 60⟩) (hl0 : M.2.1 = l) (hr : (mM M).sig.returnType = (some .boolean)) (hnm : (mM M).name = yX1_isCold.name) {p : Nat} {g : AH} {r : Int32} {g1 : AH} (E : x1_isCold p g = some (r, g1)) : WW M G 1 (RQ M G (some (.int r)) g1 0 0) 0 0 g 0 [(0, .ref p)] [] := by
  unfold x1_isCold at E
  refine r_aload_n X 0 dX1_isCold_0 rfl rfl ?_
  obtain ⟨x1, e2, E⟩ := gb_some E
  refine r_getI X dX1_isCold_1 f_X1_37 e2 ?_
  refine r_aload_n X 0 dX1_isCold_4 rfl rfl ?_
  obtain ⟨x3, e4, E⟩ := gb_some E
  refine r_getI X dX1_isCold_5 f_X1_22 e4 ?_
  refine r_icmp_ge X 15 dX1_isCold_8 (by decide) (fun c5 => ?_) (fun c5 => ?_)
  · rw [if_pos c5] at E
    refine r_iconst X (v := 0) dX1_isCold_15 (by decide) ?_
    cases E
    exact r_zret X hr (Or.inl rfl) dX1_isCold_16 (by decide) (by decide)
  · rw [if_neg c5] at E
    refine r_iconst X (v := 1) dX1_isCold_11 (by decide) ?_
    refine r_goto X 16 dX1_isCold_12 (by decide) ?_
    cases E
    exact r_zret X hr (Or.inr rfl) dX1_isCold_16 (by decide) (by decide)
theorem t_x1_isCold {l : Launch} {G : GG} {p : Nat} {g : AH} {r : Int32} {g1 : AH} (E : x1_isCold p g = some (r, g1)) : Ct l G yX1_isCold cX1_isCold 1 (some .boolean) ⟨1, 0, 0, 60⟩ [.ref p] g (some (.int r)) g1 :=
  ct_of (L0 := [(0, .ref p)]) y_X1_isCold rfl (Nat.le_of_ble_eq_true rfl) fun M hl0 X hr hnm => t_x1_isCold_b X hl0 hr hnm E
set_option maxHeartbeats 4000000 in
set_option maxRecDepth 100000 in
theorem t_x3_measure_l7 {l : Launch} {G : GG} {M : MC} (X : CX M G cX3_measure 4 RX3 ⟨3, 0, 0, 105⟩) (hl0 : M.2.1 = l) (hr : (mM M).sig.returnType = none) (hnm : (mM M).name = yX3_measure.name) {Q : State → Prop} {kc ks : Nat} {s9 : ((Int32) ⊕ (Unit))} {g1 : AH} {a0 : Nat} {a1 : Int32} {s0 : Int32} (hc : ∀ s1, s9 = .inl s1 → WW M G 4 Q kc ks g1 7 [(0, .ref a0), (1, .int a1), (2, .int s1)] []) (hx : ∀ t, s9 = .inr t → WW M G 4 Q kc ks g1 29 [(0, .ref a0), (1, .int a1)] []) {g : AH} (E : x3_measure_l7 a0 a1 s0 g = some (s9, g1)) : WW M G 4 Q kc ks g 7 [(0, .ref a0), (1, .int a1), (2, .int s0)] [] := by
  unfold x3_measure_l7 at E
  refine r_iload_n X 2 dX3_measure_7 rfl rfl ?_
  refine r_aload_n X 0 dX3_measure_8 rfl rfl ?_
  obtain ⟨x1, e2, E⟩ := gb_some E
  refine r_getR X dX3_measure_9 f_X3_24 e2 ?_
  obtain ⟨x3, e4, E⟩ := gb_some E
  refine r_alen X 0 (by decide) dX3_measure_12 e4 ?_
  refine r_icmp_ge X 29 dX3_measure_13 (by decide) (fun c5 => ?_) (fun c5 => ?_)
  · rw [if_pos c5] at E
    cases E
    exact r_pick (by rfl : lpick [(0, .ref a0), (1, .int a1), (2, .int s0)] [0, 1] = _) (hx _ rfl)
  · rw [if_neg c5] at E
    refine r_aload_n X 0 dX3_measure_16 rfl rfl ?_
    obtain ⟨x6, e7, E⟩ := gb_some E
    refine r_getR X dX3_measure_17 f_X3_24 e7 ?_
    refine r_iload_n X 2 dX3_measure_20 rfl rfl ?_
    refine r_iconst X (v := 0) dX3_measure_21 (by decide) ?_
    obtain ⟨g8, e9, E⟩ := gb_some E
    refine r_iast X dX3_measure_22 e9 ?_
    refine r_iinc X (v := (s0 + 1)) (L1 := [(2, .int (s0 + 1)), (0, .ref a0), (1, .int a1)]) dX3_measure_23 rfl rfl (by decide) rfl ?_
    refine r_goto X 7 dX3_measure_26 (by decide) ?_
    cases E
    exact r_pick (by rfl : lpick [(2, .int (s0 + 1)), (0, .ref a0), (1, .int a1)] [1, 2, 0] = _) (hc _ rfl)
set_option maxHeartbeats 4000000 in
theorem t_x3_measure_l7_r {l : Launch} {G : GG} {M : MC} (X : CX M G cX3_measure 4 RX3 ⟨3, 0, 0, 105⟩) (hl0 : M.2.1 = l) (hr : (mM M).sig.returnType = none) (hnm : (mM M).name = yX3_measure.name) {Q : State → Prop} {kc ks : Nat} {a0 : Nat} {a1 : Int32} : ∀ (n : Nat) (s0 : Int32) (g : AH) (t : (Unit)) (g1 : AH), loopX (x3_measure_l7 a0 a1) n s0 g = some (t, g1) → WW M G 4 Q kc ks g1 29 [(0, .ref a0), (1, .int a1)] [] → WW M G 4 Q kc ks g 7 [(0, .ref a0), (1, .int a1), (2, .int s0)] [] :=
  loop_cps (K := fun t g1 => WW M G 4 Q kc ks g1 29 [(0, .ref a0), (1, .int a1)] []) (fun _ s0 g => WW M G 4 Q kc ks g 7 [(0, .ref a0), (1, .int a1), (2, .int s0)] []) (fun n s0 g st g1 E hc hx => t_x3_measure_l7 X hl0 hr hnm hc hx E)
set_option maxHeartbeats 4000000 in
set_option maxRecDepth 100000 in
theorem t_x3_measure_j126_31 {l : Launch} {G : GG} {M : MC} (X : CX M G cX3_measure 4 RX3 ⟨3, 0, 0, 105⟩) (hl0 : M.2.1 = l) (hr : (mM M).sig.returnType = none) (hnm : (mM M).name = yX3_measure.name) {Q : State → Prop} {kc ks : Nat} {s9 : ((Int32) ⊕ (Unit))} {g1 : AH} {a0 : Nat} {a1 : Int32} {a2 : Int32} (hc : ∀ s1, s9 = .inl s1 → WW M G 4 Q kc ks g1 31 [(0, .ref a0), (1, .int a1), (2, .int s1)] []) (hx : ∀ t, s9 = .inr t → WW M G 4 Q kc ks g1 132 [] []) {g : AH} (E : x3_measure_j126_31 a0 a1 a2 g = some (s9, g1)) : WW M G 4 Q kc ks g 126 [(0, .ref a0), (1, .int a1), (2, .int a2)] [] := by
  unfold x3_measure_j126_31 at E
  refine r_iinc X (v := (a2 + 1)) (L1 := [(2, .int (a2 + 1)), (0, .ref a0), (1, .int a1)]) dX3_measure_126 rfl rfl (by decide) rfl ?_
  refine r_goto X 31 dX3_measure_129 (by decide) ?_
  cases E
  exact r_pick (by rfl : lpick [(2, .int (a2 + 1)), (0, .ref a0), (1, .int a1)] [1, 2, 0] = _) (hc _ rfl)
set_option maxHeartbeats 4000000 in
set_option maxRecDepth 100000 in
theorem t_x3_measure_j71_31 {l : Launch} {G : GG} {M : MC} (X : CX M G cX3_measure 4 RX3 ⟨3, 0, 0, 105⟩) (hl0 : M.2.1 = l) (hr : (mM M).sig.returnType = none) (hnm : (mM M).name = yX3_measure.name) {Q : State → Prop} {kc ks : Nat} {s9 : ((Int32) ⊕ (Unit))} {g1 : AH} {a0 : Nat} {a1 : Int32} {a2 : Int32} {a3 : Nat} {s0 : Int32} {s1 : Nat} (hc : ∀ s1, s9 = .inl s1 → WW M G 4 Q kc ks g1 31 [(0, .ref a0), (1, .int a1), (2, .int s1)] []) (hx : ∀ t, s9 = .inr t → WW M G 4 Q kc ks g1 132 [] []) {g : AH} (E : x3_measure_j71_31 a0 a1 a2 a3 s0 s1 g = some (s9, g1)) : WW M G 4 Q kc ks g 71 [(0, .ref a0), (1, .int a1), (2, .int a2), (3, .ref a3)] [.int s0, .ref s1] := by
  unfold x3_measure_j71_31 at E
  obtain ⟨g1, e2, E⟩ := gb_some E
  refine r_put X dX3_measure_71 f_X3_101 rfl rfl e2 ?_
  refine r_aload_n X 3 dX3_measure_74 rfl rfl ?_
  refine r_iload_n X 1 dX3_measure_75 rfl rfl ?_
  refine r_aload_n X 3 dX3_measure_76 rfl rfl ?_
  obtain ⟨x3, e4, E⟩ := gb_some E
  refine r_getI X dX3_measure_77 f_X3_101 e4 ?_
  refine r_iadd X dX3_measure_80 ?_
  refine r_aload_n X 0 dX3_measure_81 rfl rfl ?_
  refine r_aload_n X 3 dX3_measure_82 rfl rfl ?_
  obtain ⟨x5, e6, E⟩ := gb_some E
  refine r_getI X dX3_measure_83 f_X3_104 e6 ?_
  obtain ⟨u10, e11, E⟩ := gb_some E
  obtain ⟨r7, g8, e9, E⟩ := cb_some E
  refine r_callV0 X hl0 (ci := 3) dX3_measure_86 y_X3_warmthOfBunk m_X3_107 rfl rfl e11 (t_x3_warmthOfBunk (l := l) (G := G) e9) rfl rfl (Nat.le_of_ble_eq_true rfl) (by decide) ?_
  refine r_iadd X dX3_measure_89 ?_
  obtain ⟨g12, e13, E⟩ := gb_some E
  refine r_put X dX3_measure_90 f_X3_111 rfl rfl e13 ?_
  refine r_aload_n X 0 dX3_measure_93 rfl rfl ?_
  refine r_aload_n X 3 dX3_measure_94 rfl rfl ?_
  obtain ⟨x14, e15, E⟩ := gb_some E
  refine r_getI X dX3_measure_95 f_X3_104 e15 ?_
  obtain ⟨u19, e20, E⟩ := gb_some E
  obtain ⟨r16, g17, e18, E⟩ := cb_some E
  refine r_callV0 X hl0 (ci := 3) dX3_measure_98 y_X3_hasBunk m_X3_114 rfl rfl e20 (t_x3_hasBunk (l := l) (G := G) e18) rfl rfl (Nat.le_of_ble_eq_true rfl) (by decide) ?_
  refine r_if_eq X 126 dX3_measure_101 (by decide) (fun c21 => ?_) (fun c21 => ?_)
  · rw [if_pos c21] at E
    exact r_pick (by rfl : lpick [(0, .ref a0), (1, .int a1), (2, .int a2), (3, .ref a3)] [0, 1, 2] = _) (t_x3_measure_j126_31 X hl0 hr hnm hc hx E)
  · rw [if_neg c21] at E
    refine r_aload_n X 3 dX3_measure_104 rfl rfl ?_
    obtain ⟨u25, e26, E⟩ := gb_some E
    obtain ⟨r22, g23, e24, E⟩ := cb_some E
    refine r_callV0 X hl0 (ci := 1) dX3_measure_105 y_X1_isCold m_X3_117 rfl rfl e26 (t_x1_isCold (l := l) (G := G) e24) rfl rfl (Nat.le_of_ble_eq_true rfl) (by decide) ?_
    refine r_if_ne X 126 dX3_measure_108 (by decide) (fun c27 => ?_) (fun c27 => ?_)
    · rw [if_neg c27] at E
      exact r_pick (by rfl : lpick [(0, .ref a0), (1, .int a1), (2, .int a2), (3, .ref a3)] [0, 1, 2] = _) (t_x3_measure_j126_31 X hl0 hr hnm hc hx E)
    · rw [if_pos c27] at E
      refine r_aload_n X 0 dX3_measure_111 rfl rfl ?_
      obtain ⟨x28, e29, E⟩ := gb_some E
      refine r_getR X dX3_measure_112 f_X3_24 e29 ?_
      refine r_aload_n X 3 dX3_measure_115 rfl rfl ?_
      obtain ⟨x30, e31, E⟩ := gb_some E
      refine r_getI X dX3_measure_116 f_X3_104 e31 ?_
      refine r_iconst X (v := 2) dX3_measure_119 (by decide) ?_
      refine r_iadd X dX3_measure_120 ?_
      refine r_aload_n X 3 dX3_measure_121 rfl rfl ?_
      obtain ⟨x32, e33, E⟩ := gb_some E
      refine r_getI X dX3_measure_122 f_X3_121 e33 ?_
      obtain ⟨g34, e35, E⟩ := gb_some E
      refine r_iast X dX3_measure_125 e35 ?_
      exact r_pick (by rfl : lpick [(0, .ref a0), (1, .int a1), (2, .int a2), (3, .ref a3)] [0, 1, 2] = _) (t_x3_measure_j126_31 X hl0 hr hnm hc hx E)
set_option maxHeartbeats 4000000 in
set_option maxRecDepth 100000 in
theorem t_x3_measure_l31 {l : Launch} {G : GG} {M : MC} (X : CX M G cX3_measure 4 RX3 ⟨3, 0, 0, 105⟩) (hl0 : M.2.1 = l) (hr : (mM M).sig.returnType = none) (hnm : (mM M).name = yX3_measure.name) {Q : State → Prop} {kc ks : Nat} {s9 : ((Int32) ⊕ (Unit))} {g1 : AH} {a0 : Nat} {a1 : Int32} {s0 : Int32} (hc : ∀ s1, s9 = .inl s1 → WW M G 4 Q kc ks g1 31 [(0, .ref a0), (1, .int a1), (2, .int s1)] []) (hx : ∀ t, s9 = .inr t → WW M G 4 Q kc ks g1 132 [] []) {g : AH} (E : x3_measure_l31 a0 a1 s0 g = some (s9, g1)) : WW M G 4 Q kc ks g 31 [(0, .ref a0), (1, .int a1), (2, .int s0)] [] := by
  unfold x3_measure_l31 at E
  refine r_iload_n X 2 dX3_measure_31 rfl rfl ?_
  refine r_aload_n X 0 dX3_measure_32 rfl rfl ?_
  obtain ⟨x1, e2, E⟩ := gb_some E
  refine r_getI X dX3_measure_33 f_X3_78 e2 ?_
  refine r_icmp_ge X 132 dX3_measure_36 (by decide) (fun c3 => ?_) (fun c3 => ?_)
  · rw [if_pos c3] at E
    cases E
    exact r_pick (by rfl : lpick [(0, .ref a0), (1, .int a1), (2, .int s0)] [] = _) (hx _ rfl)
  · rw [if_neg c3] at E
    refine r_aload_n X 0 dX3_measure_39 rfl rfl ?_
    obtain ⟨x4, e5, E⟩ := gb_some E
    refine r_getR X dX3_measure_40 f_X3_29 e5 ?_
    refine r_iload_n X 2 dX3_measure_43 rfl rfl ?_
    obtain ⟨x6, e7, E⟩ := gb_some E
    refine r_aald X 4 (by decide) rfl dX3_measure_44 e7 ?_
    refine r_astore_n X 3 (L1 := [(3, .ref x6), (0, .ref a0), (1, .int a1), (2, .int s0)]) dX3_measure_45 rfl (by decide) rfl ?_
    refine r_aload_n X 3 dX3_measure_46 rfl rfl ?_
    refine r_aload_n X 0 dX3_measure_47 rfl rfl ?_
    refine r_aload_n X 3 dX3_measure_48 rfl rfl ?_
    obtain ⟨x8, e9, E⟩ := gb_some E
    refine r_getI X dX3_measure_49 f_X3_94 e9 ?_
    obtain ⟨u13, e14, E⟩ := gb_some E
    obtain ⟨r10, g11, e12, E⟩ := cb_some E
    refine r_callV0 X hl0 (ci := 3) dX3_measure_52 y_X3_hasBlanket m_X3_97 rfl rfl e14 (t_x3_hasBlanket (l := l) (G := G) e12) rfl rfl (Nat.le_of_ble_eq_true rfl) (by decide) ?_
    refine r_if_eq X 70 dX3_measure_55 (by decide) (fun c15 => ?_) (fun c15 => ?_)
    · rw [if_pos c15] at E
      refine r_iconst X (v := 0) dX3_measure_70 (by decide) ?_
      exact r_pick (by rfl : lpick [(3, .ref x6), (0, .ref a0), (1, .int a1), (2, .int s0)] [1, 2, 3, 0] = _) (t_x3_measure_j71_31 X hl0 hr hnm hc hx E)
    · rw [if_neg c15] at E
      refine r_aload_n X 0 dX3_measure_58 rfl rfl ?_
      obtain ⟨x16, e17, E⟩ := gb_some E
      refine r_getR X dX3_measure_59 f_X3_15 e17 ?_
      refine r_aload_n X 3 dX3_measure_62 rfl rfl ?_
      obtain ⟨x18, e19, E⟩ := gb_some E
      refine r_getI X dX3_measure_63 f_X3_94 e19 ?_
      obtain ⟨x20, e21, E⟩ := gb_some E
      refine r_iald X dX3_measure_66 e21 ?_
      refine r_goto X 71 dX3_measure_67 (by decide) ?_
      exact r_pick (by rfl : lpick [(3, .ref x6), (0, .ref a0), (1, .int a1), (2, .int s0)] [1, 2, 3, 0] = _) (t_x3_measure_j71_31 X hl0 hr hnm hc hx E)
set_option maxHeartbeats 4000000 in
theorem t_x3_measure_l31_r {l : Launch} {G : GG} {M : MC} (X : CX M G cX3_measure 4 RX3 ⟨3, 0, 0, 105⟩) (hl0 : M.2.1 = l) (hr : (mM M).sig.returnType = none) (hnm : (mM M).name = yX3_measure.name) {Q : State → Prop} {kc ks : Nat} {a0 : Nat} {a1 : Int32} : ∀ (n : Nat) (s0 : Int32) (g : AH) (t : (Unit)) (g1 : AH), loopX (x3_measure_l31 a0 a1) n s0 g = some (t, g1) → WW M G 4 Q kc ks g1 132 [] [] → WW M G 4 Q kc ks g 31 [(0, .ref a0), (1, .int a1), (2, .int s0)] [] :=
  loop_cps (K := fun t g1 => WW M G 4 Q kc ks g1 132 [] []) (fun _ s0 g => WW M G 4 Q kc ks g 31 [(0, .ref a0), (1, .int a1), (2, .int s0)] []) (fun n s0 g st g1 E hc hx => t_x3_measure_l31 X hl0 hr hnm hc hx E)
set_option maxHeartbeats 4000000 in
set_option maxRecDepth 100000 in
theorem t_x3_measure_b {l : Launch} {G : GG} {M : MC} (X : CX M G cX3_measure 4 RX3 ⟨3, 0, 0, 105⟩) (hl0 : M.2.1 = l) (hr : (mM M).sig.returnType = none) (hnm : (mM M).name = yX3_measure.name) {p : Nat} {g : AH} {r : Unit} {g1 : AH} (E : x3_measure p g = some (r, g1)) : WW M G 4 (RQ M G none g1 0 0) 0 0 g 0 [(0, .ref p)] [] := by
  unfold x3_measure at E
  refine r_aload_n X 0 dX3_measure_0 rfl rfl ?_
  obtain ⟨u4, e5, E⟩ := gb_some E
  obtain ⟨r1, g2, e3, E⟩ := cb_some E
  refine r_callV0 X hl0 (ci := 3) dX3_measure_1 y_X3_temperatureInside m_X3_91 rfl rfl e5 (t_x3_temperatureInside (l := l) (G := G) e3) rfl rfl (Nat.le_of_ble_eq_true rfl) (by decide) ?_
  refine r_istore_n X 1 (L1 := [(1, .int r1), (0, .ref p)]) dX3_measure_4 rfl (by decide) rfl ?_
  refine r_iconst X (v := 0) dX3_measure_5 (by decide) ?_
  refine r_istore_n X 2 (L1 := [(2, .int 0), (1, .int r1), (0, .ref p)]) dX3_measure_6 rfl (by decide) rfl ?_
  obtain ⟨t6, g7, e8, E⟩ := cb_some E
  refine r_pick (by rfl : lpick [(2, .int 0), (1, .int r1), (0, .ref p)] [2, 1, 0] = _) (t_x3_measure_l7_r X hl0 hr hnm _ _ _ _ _ e8 ?_)
  refine r_iconst X (v := 0) dX3_measure_29 (by decide) ?_
  refine r_istore_n X 2 (L1 := [(2, .int 0), (0, .ref p), (1, .int r1)]) dX3_measure_30 rfl (by decide) rfl ?_
  obtain ⟨t9, g10, e11, E⟩ := cb_some E
  refine r_pick (by rfl : lpick [(2, .int 0), (0, .ref p), (1, .int r1)] [1, 2, 0] = _) (t_x3_measure_l31_r X hl0 hr hnm _ _ _ _ _ e11 ?_)
  cases E
  exact r_vret X hr dX3_measure_132 (by decide) (by decide)
theorem t_x3_measure {l : Launch} {G : GG} {p : Nat} {g : AH} {r : Unit} {g1 : AH} (E : x3_measure p g = some (r, g1)) : Ct l G yX3_measure cX3_measure 4 none ⟨3, 0, 0, 105⟩ [.ref p] g none g1 :=
  ct_of (L0 := [(0, .ref p)]) y_X3_measure rfl (Nat.le_of_ble_eq_true rfl) fun M hl0 X hr hnm => t_x3_measure_b X hl0 hr hnm E
set_option maxHeartbeats 4000000 in
set_option maxRecDepth 100000 in
theorem t_x3_open_b {l : Launch} {G : GG} {M : MC} (X : CX M G cX3_open 1 RX3 ⟨4, 0, 0, 128⟩) (hl0 : M.2.1 = l) (hr : (mM M).sig.returnType = none) (hnm : (mM M).name = yX3_open.name) {p : Nat} {g : AH} {r : Unit} {g1 : AH} (E : x3_open p g = some (r, g1)) : WW M G 1 (RQ M G none g1 0 0) 0 0 g 0 [(0, .ref p)] [] := by
  unfold x3_open at E
  refine r_aload_n X 0 dX3_open_0 rfl rfl ?_
  refine r_aload_n X 0 dX3_open_1 rfl rfl ?_
  obtain ⟨x1, e2, E⟩ := gb_some E
  refine r_getI X dX3_open_2 f_X3_34 e2 ?_
  obtain ⟨g3, e4, E⟩ := gb_some E
  refine r_put X dX3_open_5 f_X3_38 rfl rfl e4 ?_
  refine r_aload_n X 0 dX3_open_8 rfl rfl ?_
  refine r_aload_n X 0 dX3_open_9 rfl rfl ?_
  obtain ⟨u8, e9, E⟩ := gb_some E
  obtain ⟨r5, g6, e7, E⟩ := cb_some E
  refine r_callV0 X hl0 (ci := 3) dX3_open_10 y_X3_sumOfCoins m_X3_41 rfl rfl e9 (t_x3_sumOfCoins (l := l) (G := G) e7) rfl rfl (Nat.le_of_ble_eq_true rfl) (by decide) ?_
  obtain ⟨g10, e11, E⟩ := gb_some E
  refine r_put X dX3_open_13 f_X3_45 rfl rfl e11 ?_
  refine r_aload_n X 0 dX3_open_16 rfl rfl ?_
  obtain ⟨u15, e16, E⟩ := gb_some E
  obtain ⟨r12, g13, e14, E⟩ := cb_some E
  refine r_callV0 X hl0 (ci := 3) dX3_open_17 y_X3_measure m_X3_48 rfl rfl e16 (t_x3_measure (l := l) (G := G) e14) rfl rfl (Nat.le_of_ble_eq_true rfl) (by decide) ?_
  cases E
  exact r_vret X hr dX3_open_20 (by decide) (by decide)
theorem t_x3_open {l : Launch} {G : GG} {p : Nat} {g : AH} {r : Unit} {g1 : AH} (E : x3_open p g = some (r, g1)) : Ct l G yX3_open cX3_open 1 none ⟨4, 0, 0, 128⟩ [.ref p] g none g1 :=
  ct_of (L0 := [(0, .ref p)]) y_X3_open rfl (Nat.le_of_ble_eq_true rfl) fun M hl0 X hr hnm => t_x3_open_b X hl0 hr hnm E
set_option maxHeartbeats 4000000 in
set_option maxRecDepth 100000 in
theorem t_x0_readSetup_j49 {l : Launch} {G : GG} {M : MC} (X : CX M G cX0_readSetup 3 RX0 ⟨11, 0, 0, 307⟩) (hl0 : M.2.1 = l) (hr : (mM M).sig.returnType = (some .boolean)) (hnm : (mM M).name = yX0_readSetup.name) {a1 : Nat} {s0 : Int32} {g : AH} {r : Int32} {g1 : AH} (E : x0_readSetup_j49 a1 s0 g = some (r, g1)) : WW M G 3 (RQ M G (some (.int r)) g1 0 0) 0 0 g 49 [(1, .ref a1)] [.int s0] := by
  unfold x0_readSetup_j49 at E
  refine r_istore_n X 2 (L1 := [(2, .int s0), (1, .ref a1)]) dX0_readSetup_49 rfl (by decide) rfl ?_
  refine r_iload_n X 2 dX0_readSetup_50 rfl rfl ?_
  refine r_if_eq X 58 dX0_readSetup_51 (by decide) (fun c1 => ?_) (fun c1 => ?_)
  · rw [if_pos c1] at E
    refine r_iload_n X 2 dX0_readSetup_58 rfl rfl ?_
    by_cases c2 : bz s0
    · rw [if_pos c2] at E
      cases E
      exact r_zret X hr c2 dX0_readSetup_59 (by decide) (by decide)
    · rw [if_neg c2] at E; cases E
  · rw [if_neg c1] at E
    refine r_aload_n X 1 dX0_readSetup_54 rfl rfl ?_
    obtain ⟨u6, e7, E⟩ := gb_some E
    obtain ⟨r3, g4, e5, E⟩ := cb_some E
    refine r_callV0 X hl0 (ci := 3) dX0_readSetup_55 y_X3_open m_X0_44 rfl rfl e7 (t_x3_open (l := l) (G := G) e5) rfl rfl (Nat.le_of_ble_eq_true rfl) (by decide) ?_
    refine r_iload_n X 2 dX0_readSetup_58 rfl rfl ?_
    by_cases c8 : bz s0
    · rw [if_pos c8] at E
      cases E
      exact r_zret X hr c8 dX0_readSetup_59 (by decide) (by decide)
    · rw [if_neg c8] at E; cases E
set_option maxHeartbeats 4000000 in
set_option maxRecDepth 100000 in
theorem t_x0_readSetup_j48 {l : Launch} {G : GG} {M : MC} (X : CX M G cX0_readSetup 3 RX0 ⟨11, 0, 0, 307⟩) (hl0 : M.2.1 = l) (hr : (mM M).sig.returnType = (some .boolean)) (hnm : (mM M).name = yX0_readSetup.name) {a1 : Nat} {g : AH} {r : Int32} {g1 : AH} (E : x0_readSetup_j48 a1 g = some (r, g1)) : WW M G 3 (RQ M G (some (.int r)) g1 0 0) 0 0 g 48 [(1, .ref a1)] [] := by
  unfold x0_readSetup_j48 at E
  refine r_iconst X (v := 0) dX0_readSetup_48 (by decide) ?_
  exact r_pick (by rfl : lpick [(1, .ref a1)] [0] = _) (t_x0_readSetup_j49 X hl0 hr hnm E)
set_option maxHeartbeats 4000000 in
set_option maxRecDepth 100000 in
theorem t_x0_readSetup_b {l : Launch} {G : GG} {M : MC} (X : CX M G cX0_readSetup 3 RX0 ⟨11, 0, 0, 307⟩) (hl0 : M.2.1 = l) (hr : (mM M).sig.returnType = (some .boolean)) (hnm : (mM M).name = yX0_readSetup.name) {p : Nat} {b0 : Nat} {g : AH} {r : Int32} {g1 : AH} (E : x0_readSetup p b0 g = some (r, g1)) : WW M G 3 (RQ M G (some (.int r)) g1 0 0) 0 0 g 0 [(0, .ref p), (1, .ref b0)] [] := by
  unfold x0_readSetup at E
  refine r_aload_n X 0 dX0_readSetup_0 rfl rfl ?_
  obtain ⟨u4, e5, E⟩ := gb_some E
  obtain ⟨r1, g2, e3, E⟩ := cb_some E
  refine r_callV0 X hl0 (ci := 0) dX0_readSetup_1 y_X0_begin m_X0_25 rfl rfl e5 (t_x0_begin (l := l) (G := G) e3) rfl rfl (Nat.le_of_ble_eq_true rfl) (by decide) ?_
  refine r_aload_n X 0 dX0_readSetup_4 rfl rfl ?_
  refine r_aload_n X 1 dX0_readSetup_5 rfl rfl ?_
  obtain ⟨u9, e10, E⟩ := gb_some E
  obtain ⟨r6, g7, e8, E⟩ := cb_some E
  refine r_callV0 X hl0 (ci := 0) dX0_readSetup_6 y_X0_readLogs m_X0_28 rfl rfl e10 (t_x0_readLogs (l := l) (G := G) e8) rfl rfl (Nat.le_of_ble_eq_true rfl) (by decide) ?_
  refine r_if_eq X 48 dX0_readSetup_9 (by decide) (fun c11 => ?_) (fun c11 => ?_)
  · rw [if_pos c11] at E
    exact r_pick (by rfl : lpick [(0, .ref p), (1, .ref b0)] [1] = _) (t_x0_readSetup_j48 X hl0 hr hnm E)
  · rw [if_neg c11] at E
    refine r_aload_n X 0 dX0_readSetup_12 rfl rfl ?_
    refine r_aload_n X 1 dX0_readSetup_13 rfl rfl ?_
    obtain ⟨u15, e16, E⟩ := gb_some E
    obtain ⟨r12, g13, e14, E⟩ := cb_some E
    refine r_callV0 X hl0 (ci := 0) dX0_readSetup_14 y_X0_readBunks m_X0_32 rfl rfl e16 (t_x0_readBunks (l := l) (G := G) e14) rfl rfl (Nat.le_of_ble_eq_true rfl) (by decide) ?_
    refine r_if_eq X 48 dX0_readSetup_17 (by decide) (fun c17 => ?_) (fun c17 => ?_)
    · rw [if_pos c17] at E
      exact r_pick (by rfl : lpick [(0, .ref p), (1, .ref b0)] [1] = _) (t_x0_readSetup_j48 X hl0 hr hnm E)
    · rw [if_neg c17] at E
      refine r_aload_n X 0 dX0_readSetup_20 rfl rfl ?_
      refine r_aload_n X 1 dX0_readSetup_21 rfl rfl ?_
      obtain ⟨u21, e22, E⟩ := gb_some E
      obtain ⟨r18, g19, e20, E⟩ := cb_some E
      refine r_callV0 X hl0 (ci := 0) dX0_readSetup_22 y_X0_readBlankets m_X0_35 rfl rfl e22 (t_x0_readBlankets (l := l) (G := G) e20) rfl rfl (Nat.le_of_ble_eq_true rfl) (by decide) ?_
      refine r_if_eq X 48 dX0_readSetup_25 (by decide) (fun c23 => ?_) (fun c23 => ?_)
      · rw [if_pos c23] at E
        exact r_pick (by rfl : lpick [(0, .ref p), (1, .ref b0)] [1] = _) (t_x0_readSetup_j48 X hl0 hr hnm E)
      · rw [if_neg c23] at E
        refine r_aload_n X 0 dX0_readSetup_28 rfl rfl ?_
        refine r_aload_n X 1 dX0_readSetup_29 rfl rfl ?_
        obtain ⟨u27, e28, E⟩ := gb_some E
        obtain ⟨r24, g25, e26, E⟩ := cb_some E
        refine r_callV0 X hl0 (ci := 0) dX0_readSetup_30 y_X0_readForecast m_X0_38 rfl rfl e28 (t_x0_readForecast (l := l) (G := G) e26) rfl rfl (Nat.le_of_ble_eq_true rfl) (by decide) ?_
        refine r_if_eq X 48 dX0_readSetup_33 (by decide) (fun c29 => ?_) (fun c29 => ?_)
        · rw [if_pos c29] at E
          exact r_pick (by rfl : lpick [(0, .ref p), (1, .ref b0)] [1] = _) (t_x0_readSetup_j48 X hl0 hr hnm E)
        · rw [if_neg c29] at E
          refine r_aload_n X 0 dX0_readSetup_36 rfl rfl ?_
          refine r_aload_n X 1 dX0_readSetup_37 rfl rfl ?_
          obtain ⟨u33, e34, E⟩ := gb_some E
          obtain ⟨r30, g31, e32, E⟩ := cb_some E
          refine r_callV0 X hl0 (ci := 0) dX0_readSetup_38 y_X0_readHikers m_X0_41 rfl rfl e34 (t_x0_readHikers (l := l) (G := G) e32) rfl rfl (Nat.le_of_ble_eq_true rfl) (by decide) ?_
          refine r_if_eq X 48 dX0_readSetup_41 (by decide) (fun c35 => ?_) (fun c35 => ?_)
          · rw [if_pos c35] at E
            exact r_pick (by rfl : lpick [(0, .ref p), (1, .ref b0)] [1] = _) (t_x0_readSetup_j48 X hl0 hr hnm E)
          · rw [if_neg c35] at E
            refine r_iconst X (v := 1) dX0_readSetup_44 (by decide) ?_
            refine r_goto X 49 dX0_readSetup_45 (by decide) ?_
            exact r_pick (by rfl : lpick [(0, .ref p), (1, .ref b0)] [1] = _) (t_x0_readSetup_j49 X hl0 hr hnm E)
theorem t_x0_readSetup {l : Launch} {G : GG} {p : Nat} {b0 : Nat} {g : AH} {r : Int32} {g1 : AH} (E : x0_readSetup p b0 g = some (r, g1)) : Ct l G yX0_readSetup cX0_readSetup 3 (some .boolean) ⟨11, 0, 0, 307⟩ [.ref p, .ref b0] g (some (.int r)) g1 :=
  ct_of (L0 := [(0, .ref p), (1, .ref b0)]) y_X0_readSetup rfl (Nat.le_of_ble_eq_true rfl) fun M hl0 X hr hnm => t_x0_readSetup_b X hl0 hr hnm E
set_option maxHeartbeats 4000000 in
set_option maxRecDepth 100000 in
theorem t_x1_copyFrom_b {l : Launch} {G : GG} {M : MC} (X : CX M G cX1_copyFrom 2 RX1 ⟨3, 0, 0, 150⟩) (hl0 : M.2.1 = l) (hr : (mM M).sig.returnType = none) (hnm : (mM M).name = yX1_copyFrom.name) {p : Nat} {b0 : Nat} {g : AH} {r : Unit} {g1 : AH} (E : x1_copyFrom p b0 g = some (r, g1)) : WW M G 2 (RQ M G none g1 0 0) 0 0 g 0 [(0, .ref p), (1, .ref b0)] [] := by
  unfold x1_copyFrom at E
  refine r_aload_n X 0 dX1_copyFrom_0 rfl rfl ?_
  refine r_aload_n X 1 dX1_copyFrom_1 rfl rfl ?_
  obtain ⟨x1, e2, E⟩ := gb_some E
  refine r_getI X dX1_copyFrom_2 f_X1_22 e2 ?_
  obtain ⟨g3, e4, E⟩ := gb_some E
  refine r_put X dX1_copyFrom_5 f_X1_22 rfl rfl e4 ?_
  refine r_aload_n X 0 dX1_copyFrom_8 rfl rfl ?_
  refine r_aload_n X 1 dX1_copyFrom_9 rfl rfl ?_
  obtain ⟨x5, e6, E⟩ := gb_some E
  refine r_getI X dX1_copyFrom_10 f_X1_25 e6 ?_
  obtain ⟨g7, e8, E⟩ := gb_some E
  refine r_put X dX1_copyFrom_13 f_X1_25 rfl rfl e8 ?_
  refine r_aload_n X 0 dX1_copyFrom_16 rfl rfl ?_
  refine r_aload_n X 1 dX1_copyFrom_17 rfl rfl ?_
  obtain ⟨x9, e10, E⟩ := gb_some E
  refine r_getI X dX1_copyFrom_18 f_X1_28 e10 ?_
  obtain ⟨g11, e12, E⟩ := gb_some E
  refine r_put X dX1_copyFrom_21 f_X1_28 rfl rfl e12 ?_
  refine r_aload_n X 0 dX1_copyFrom_24 rfl rfl ?_
  refine r_aload_n X 1 dX1_copyFrom_25 rfl rfl ?_
  obtain ⟨x13, e14, E⟩ := gb_some E
  refine r_getI X dX1_copyFrom_26 f_X1_31 e14 ?_
  obtain ⟨g15, e16, E⟩ := gb_some E
  refine r_put X dX1_copyFrom_29 f_X1_31 rfl rfl e16 ?_
  refine r_aload_n X 0 dX1_copyFrom_32 rfl rfl ?_
  refine r_aload_n X 1 dX1_copyFrom_33 rfl rfl ?_
  obtain ⟨x17, e18, E⟩ := gb_some E
  refine r_getI X dX1_copyFrom_34 f_X1_9 e18 ?_
  obtain ⟨g19, e20, E⟩ := gb_some E
  refine r_put X dX1_copyFrom_37 f_X1_9 rfl rfl e20 ?_
  refine r_aload_n X 0 dX1_copyFrom_40 rfl rfl ?_
  refine r_aload_n X 1 dX1_copyFrom_41 rfl rfl ?_
  obtain ⟨x21, e22, E⟩ := gb_some E
  refine r_getI X dX1_copyFrom_42 f_X1_15 e22 ?_
  obtain ⟨g23, e24, E⟩ := gb_some E
  refine r_put X dX1_copyFrom_45 f_X1_15 rfl rfl e24 ?_
  refine r_aload_n X 0 dX1_copyFrom_48 rfl rfl ?_
  refine r_aload_n X 1 dX1_copyFrom_49 rfl rfl ?_
  obtain ⟨x25, e26, E⟩ := gb_some E
  refine r_getI X dX1_copyFrom_50 f_X1_34 e26 ?_
  obtain ⟨g27, e28, E⟩ := gb_some E
  refine r_put X dX1_copyFrom_53 f_X1_34 rfl rfl e28 ?_
  refine r_aload_n X 0 dX1_copyFrom_56 rfl rfl ?_
  refine r_aload_n X 1 dX1_copyFrom_57 rfl rfl ?_
  obtain ⟨x29, e30, E⟩ := gb_some E
  refine r_getI X dX1_copyFrom_58 f_X1_37 e30 ?_
  obtain ⟨g31, e32, E⟩ := gb_some E
  refine r_put X dX1_copyFrom_61 f_X1_37 rfl rfl e32 ?_
  refine r_aload_n X 1 dX1_copyFrom_64 rfl rfl ?_
  obtain ⟨x33, e34, E⟩ := gb_some E
  refine r_getR X dX1_copyFrom_65 f_X1_18 e34 ?_
  refine r_iconst X (v := 0) dX1_copyFrom_68 (by decide) ?_
  refine r_aload_n X 0 dX1_copyFrom_69 rfl rfl ?_
  obtain ⟨x35, e36, E⟩ := gb_some E
  refine r_getR X dX1_copyFrom_70 f_X1_18 e36 ?_
  refine r_iconst X (v := 0) dX1_copyFrom_73 (by decide) ?_
  refine r_iconst X (v := 4) dX1_copyFrom_74 (by decide) ?_
  obtain ⟨g37, e38, E⟩ := gb_some E
  refine r_copy X dX1_copyFrom_75 m_X1_40c (by decide) (Nat.le_of_ble_eq_true rfl) e38 ?_
  cases E
  exact r_vret X hr dX1_copyFrom_78 (by decide) (by decide)
theorem t_x1_copyFrom {l : Launch} {G : GG} {p : Nat} {b0 : Nat} {g : AH} {r : Unit} {g1 : AH} (E : x1_copyFrom p b0 g = some (r, g1)) : Ct l G yX1_copyFrom cX1_copyFrom 2 none ⟨3, 0, 0, 150⟩ [.ref p, .ref b0] g none g1 :=
  ct_of (L0 := [(0, .ref p), (1, .ref b0)]) y_X1_copyFrom rfl (Nat.le_of_ble_eq_true rfl) fun M hl0 X hr hnm => t_x1_copyFrom_b X hl0 hr hnm E
set_option maxHeartbeats 4000000 in
set_option maxRecDepth 100000 in
theorem t_x3_copyFrom_l181 {l : Launch} {G : GG} {M : MC} (X : CX M G cX3_copyFrom 3 RX3 ⟨4, 0, 0, 171⟩) (hl0 : M.2.1 = l) (hr : (mM M).sig.returnType = none) (hnm : (mM M).name = yX3_copyFrom.name) {Q : State → Prop} {kc ks : Nat} {s9 : ((Int32) ⊕ (Unit))} {g1 : AH} {a0 : Nat} {a1 : Nat} {s0 : Int32} (hc : ∀ s1, s9 = .inl s1 → WW M G 3 Q kc ks g1 181 [(0, .ref a0), (1, .ref a1), (2, .int s1)] []) (hx : ∀ t, s9 = .inr t → WW M G 3 Q kc ks g1 210 [] []) {g : AH} (E : x3_copyFrom_l181 a0 a1 s0 g = some (s9, g1)) : WW M G 3 Q kc ks g 181 [(0, .ref a0), (1, .ref a1), (2, .int s0)] [] := by
  unfold x3_copyFrom_l181 at E
  refine r_iload_n X 2 dX3_copyFrom_181 rfl rfl ?_
  refine r_aload_n X 0 dX3_copyFrom_182 rfl rfl ?_
  obtain ⟨x1, e2, E⟩ := gb_some E
  refine r_getI X dX3_copyFrom_183 f_X3_78 e2 ?_
  refine r_icmp_ge X 210 dX3_copyFrom_186 (by decide) (fun c3 => ?_) (fun c3 => ?_)
  · rw [if_pos c3] at E
    cases E
    exact r_pick (by rfl : lpick [(0, .ref a0), (1, .ref a1), (2, .int s0)] [] = _) (hx _ rfl)
  · rw [if_neg c3] at E
    refine r_aload_n X 0 dX3_copyFrom_189 rfl rfl ?_
    obtain ⟨x4, e5, E⟩ := gb_some E
    refine r_getR X dX3_copyFrom_190 f_X3_29 e5 ?_
    refine r_iload_n X 2 dX3_copyFrom_193 rfl rfl ?_
    obtain ⟨x6, e7, E⟩ := gb_some E
    refine r_aald X 4 (by decide) rfl dX3_copyFrom_194 e7 ?_
    refine r_aload_n X 1 dX3_copyFrom_195 rfl rfl ?_
    obtain ⟨x8, e9, E⟩ := gb_some E
    refine r_getR X dX3_copyFrom_196 f_X3_29 e9 ?_
    refine r_iload_n X 2 dX3_copyFrom_199 rfl rfl ?_
    obtain ⟨x10, e11, E⟩ := gb_some E
    refine r_aald X 4 (by decide) rfl dX3_copyFrom_200 e11 ?_
    obtain ⟨u15, e16, E⟩ := gb_some E
    obtain ⟨r12, g13, e14, E⟩ := cb_some E
    refine r_callV0 X hl0 (ci := 1) dX3_copyFrom_201 y_X1_copyFrom m_X3_87 rfl rfl e16 (t_x1_copyFrom (l := l) (G := G) e14) rfl rfl (Nat.le_of_ble_eq_true rfl) (by decide) ?_
    refine r_iinc X (v := (s0 + 1)) (L1 := [(2, .int (s0 + 1)), (0, .ref a0), (1, .ref a1)]) dX3_copyFrom_204 rfl rfl (by decide) rfl ?_
    refine r_goto X 181 dX3_copyFrom_207 (by decide) ?_
    cases E
    exact r_pick (by rfl : lpick [(2, .int (s0 + 1)), (0, .ref a0), (1, .ref a1)] [1, 2, 0] = _) (hc _ rfl)
set_option maxHeartbeats 4000000 in
theorem t_x3_copyFrom_l181_r {l : Launch} {G : GG} {M : MC} (X : CX M G cX3_copyFrom 3 RX3 ⟨4, 0, 0, 171⟩) (hl0 : M.2.1 = l) (hr : (mM M).sig.returnType = none) (hnm : (mM M).name = yX3_copyFrom.name) {Q : State → Prop} {kc ks : Nat} {a0 : Nat} {a1 : Nat} : ∀ (n : Nat) (s0 : Int32) (g : AH) (t : (Unit)) (g1 : AH), loopX (x3_copyFrom_l181 a0 a1) n s0 g = some (t, g1) → WW M G 3 Q kc ks g1 210 [] [] → WW M G 3 Q kc ks g 181 [(0, .ref a0), (1, .ref a1), (2, .int s0)] [] :=
  loop_cps (K := fun t g1 => WW M G 3 Q kc ks g1 210 [] []) (fun _ s0 g => WW M G 3 Q kc ks g 181 [(0, .ref a0), (1, .ref a1), (2, .int s0)] []) (fun n s0 g st g1 E hc hx => t_x3_copyFrom_l181 X hl0 hr hnm hc hx E)
set_option maxHeartbeats 4000000 in
set_option maxRecDepth 100000 in
theorem t_x3_copyFrom_b {l : Launch} {G : GG} {M : MC} (X : CX M G cX3_copyFrom 3 RX3 ⟨4, 0, 0, 171⟩) (hl0 : M.2.1 = l) (hr : (mM M).sig.returnType = none) (hnm : (mM M).name = yX3_copyFrom.name) {p : Nat} {b0 : Nat} {g : AH} {r : Unit} {g1 : AH} (E : x3_copyFrom p b0 g = some (r, g1)) : WW M G 3 (RQ M G none g1 0 0) 0 0 g 0 [(0, .ref p), (1, .ref b0)] [] := by
  unfold x3_copyFrom at E
  refine r_aload_n X 0 dX3_copyFrom_0 rfl rfl ?_
  refine r_aload_n X 1 dX3_copyFrom_1 rfl rfl ?_
  obtain ⟨x1, e2, E⟩ := gb_some E
  refine r_getI X dX3_copyFrom_2 f_X3_51 e2 ?_
  obtain ⟨g3, e4, E⟩ := gb_some E
  refine r_put X dX3_copyFrom_5 f_X3_51 rfl rfl e4 ?_
  refine r_aload_n X 0 dX3_copyFrom_8 rfl rfl ?_
  refine r_aload_n X 1 dX3_copyFrom_9 rfl rfl ?_
  obtain ⟨x5, e6, E⟩ := gb_some E
  refine r_getI X dX3_copyFrom_10 f_X3_34 e6 ?_
  obtain ⟨g7, e8, E⟩ := gb_some E
  refine r_put X dX3_copyFrom_13 f_X3_34 rfl rfl e8 ?_
  refine r_aload_n X 0 dX3_copyFrom_16 rfl rfl ?_
  refine r_aload_n X 1 dX3_copyFrom_17 rfl rfl ?_
  obtain ⟨x9, e10, E⟩ := gb_some E
  refine r_getI X dX3_copyFrom_18 f_X3_54 e10 ?_
  obtain ⟨g11, e12, E⟩ := gb_some E
  refine r_put X dX3_copyFrom_21 f_X3_54 rfl rfl e12 ?_
  refine r_aload_n X 0 dX3_copyFrom_24 rfl rfl ?_
  refine r_aload_n X 1 dX3_copyFrom_25 rfl rfl ?_
  obtain ⟨x13, e14, E⟩ := gb_some E
  refine r_getI X dX3_copyFrom_26 f_X3_57 e14 ?_
  obtain ⟨g15, e16, E⟩ := gb_some E
  refine r_put X dX3_copyFrom_29 f_X3_57 rfl rfl e16 ?_
  refine r_aload_n X 0 dX3_copyFrom_32 rfl rfl ?_
  refine r_aload_n X 1 dX3_copyFrom_33 rfl rfl ?_
  obtain ⟨x17, e18, E⟩ := gb_some E
  refine r_getI X dX3_copyFrom_34 f_X3_60 e18 ?_
  obtain ⟨g19, e20, E⟩ := gb_some E
  refine r_put X dX3_copyFrom_37 f_X3_60 rfl rfl e20 ?_
  refine r_aload_n X 0 dX3_copyFrom_40 rfl rfl ?_
  refine r_aload_n X 1 dX3_copyFrom_41 rfl rfl ?_
  obtain ⟨x21, e22, E⟩ := gb_some E
  refine r_getI X dX3_copyFrom_42 f_X3_63 e22 ?_
  obtain ⟨g23, e24, E⟩ := gb_some E
  refine r_put X dX3_copyFrom_45 f_X3_63 rfl rfl e24 ?_
  refine r_aload_n X 0 dX3_copyFrom_48 rfl rfl ?_
  refine r_aload_n X 1 dX3_copyFrom_49 rfl rfl ?_
  obtain ⟨x25, e26, E⟩ := gb_some E
  refine r_getI X dX3_copyFrom_50 f_X3_66 e26 ?_
  obtain ⟨g27, e28, E⟩ := gb_some E
  refine r_put X dX3_copyFrom_53 f_X3_66 rfl rfl e28 ?_
  refine r_aload_n X 0 dX3_copyFrom_56 rfl rfl ?_
  refine r_aload_n X 1 dX3_copyFrom_57 rfl rfl ?_
  obtain ⟨x29, e30, E⟩ := gb_some E
  refine r_getI X dX3_copyFrom_58 f_X3_45 e30 ?_
  obtain ⟨g31, e32, E⟩ := gb_some E
  refine r_put X dX3_copyFrom_61 f_X3_45 rfl rfl e32 ?_
  refine r_aload_n X 0 dX3_copyFrom_64 rfl rfl ?_
  refine r_aload_n X 1 dX3_copyFrom_65 rfl rfl ?_
  obtain ⟨x33, e34, E⟩ := gb_some E
  refine r_getI X dX3_copyFrom_66 f_X3_38 e34 ?_
  obtain ⟨g35, e36, E⟩ := gb_some E
  refine r_put X dX3_copyFrom_69 f_X3_38 rfl rfl e36 ?_
  refine r_aload_n X 0 dX3_copyFrom_72 rfl rfl ?_
  refine r_aload_n X 1 dX3_copyFrom_73 rfl rfl ?_
  obtain ⟨x37, e38, E⟩ := gb_some E
  refine r_getI X dX3_copyFrom_74 f_X3_69 e38 ?_
  obtain ⟨g39, e40, E⟩ := gb_some E
  refine r_put X dX3_copyFrom_77 f_X3_69 rfl rfl e40 ?_
  refine r_aload_n X 0 dX3_copyFrom_80 rfl rfl ?_
  refine r_aload_n X 1 dX3_copyFrom_81 rfl rfl ?_
  obtain ⟨x41, e42, E⟩ := gb_some E
  refine r_getI X dX3_copyFrom_82 f_X3_72 e42 ?_
  obtain ⟨g43, e44, E⟩ := gb_some E
  refine r_put X dX3_copyFrom_85 f_X3_72 rfl rfl e44 ?_
  refine r_aload_n X 0 dX3_copyFrom_88 rfl rfl ?_
  refine r_aload_n X 1 dX3_copyFrom_89 rfl rfl ?_
  obtain ⟨x45, e46, E⟩ := gb_some E
  refine r_getI X dX3_copyFrom_90 f_X3_75 e46 ?_
  obtain ⟨g47, e48, E⟩ := gb_some E
  refine r_put X dX3_copyFrom_93 f_X3_75 rfl rfl e48 ?_
  refine r_aload_n X 0 dX3_copyFrom_96 rfl rfl ?_
  refine r_aload_n X 1 dX3_copyFrom_97 rfl rfl ?_
  obtain ⟨x49, e50, E⟩ := gb_some E
  refine r_getI X dX3_copyFrom_98 f_X3_78 e50 ?_
  obtain ⟨g51, e52, E⟩ := gb_some E
  refine r_put X dX3_copyFrom_101 f_X3_78 rfl rfl e52 ?_
  refine r_aload_n X 1 dX3_copyFrom_104 rfl rfl ?_
  obtain ⟨x53, e54, E⟩ := gb_some E
  refine r_getR X dX3_copyFrom_105 f_X3_9 e54 ?_
  refine r_iconst X (v := 0) dX3_copyFrom_108 (by decide) ?_
  refine r_aload_n X 0 dX3_copyFrom_109 rfl rfl ?_
  obtain ⟨x55, e56, E⟩ := gb_some E
  refine r_getR X dX3_copyFrom_110 f_X3_9 e56 ?_
  refine r_iconst X (v := 0) dX3_copyFrom_113 (by decide) ?_
  refine r_bipush X (v := 12) dX3_copyFrom_114 (by decide) ?_
  obtain ⟨g57, e58, E⟩ := gb_some E
  refine r_copy X dX3_copyFrom_116 m_X3_81c (by decide) (Nat.le_of_ble_eq_true rfl) e58 ?_
  refine r_aload_n X 1 dX3_copyFrom_119 rfl rfl ?_
  obtain ⟨x59, e60, E⟩ := gb_some E
  refine r_getR X dX3_copyFrom_120 f_X3_15 e60 ?_
  refine r_iconst X (v := 0) dX3_copyFrom_123 (by decide) ?_
  refine r_aload_n X 0 dX3_copyFrom_124 rfl rfl ?_
  obtain ⟨x61, e62, E⟩ := gb_some E
  refine r_getR X dX3_copyFrom_125 f_X3_15 e62 ?_
  refine r_iconst X (v := 0) dX3_copyFrom_128 (by decide) ?_
  refine r_bipush X (v := 12) dX3_copyFrom_129 (by decide) ?_
  obtain ⟨g63, e64, E⟩ := gb_some E
  refine r_copy X dX3_copyFrom_131 m_X3_81c (by decide) (Nat.le_of_ble_eq_true rfl) e64 ?_
  refine r_aload_n X 1 dX3_copyFrom_134 rfl rfl ?_
  obtain ⟨x65, e66, E⟩ := gb_some E
  refine r_getR X dX3_copyFrom_135 f_X3_18 e66 ?_
  refine r_iconst X (v := 0) dX3_copyFrom_138 (by decide) ?_
  refine r_aload_n X 0 dX3_copyFrom_139 rfl rfl ?_
  obtain ⟨x67, e68, E⟩ := gb_some E
  refine r_getR X dX3_copyFrom_140 f_X3_18 e68 ?_
  refine r_iconst X (v := 0) dX3_copyFrom_143 (by decide) ?_
  refine r_bipush X (v := 12) dX3_copyFrom_144 (by decide) ?_
  obtain ⟨g69, e70, E⟩ := gb_some E
  refine r_copy X dX3_copyFrom_146 m_X3_81c (by decide) (Nat.le_of_ble_eq_true rfl) e70 ?_
  refine r_aload_n X 1 dX3_copyFrom_149 rfl rfl ?_
  obtain ⟨x71, e72, E⟩ := gb_some E
  refine r_getR X dX3_copyFrom_150 f_X3_21 e72 ?_
  refine r_iconst X (v := 0) dX3_copyFrom_153 (by decide) ?_
  refine r_aload_n X 0 dX3_copyFrom_154 rfl rfl ?_
  obtain ⟨x73, e74, E⟩ := gb_some E
  refine r_getR X dX3_copyFrom_155 f_X3_21 e74 ?_
  refine r_iconst X (v := 0) dX3_copyFrom_158 (by decide) ?_
  refine r_bipush X (v := 16) dX3_copyFrom_159 (by decide) ?_
  obtain ⟨g75, e76, E⟩ := gb_some E
  refine r_copy X dX3_copyFrom_161 m_X3_81c (by decide) (Nat.le_of_ble_eq_true rfl) e76 ?_
  refine r_aload_n X 1 dX3_copyFrom_164 rfl rfl ?_
  obtain ⟨x77, e78, E⟩ := gb_some E
  refine r_getR X dX3_copyFrom_165 f_X3_24 e78 ?_
  refine r_iconst X (v := 0) dX3_copyFrom_168 (by decide) ?_
  refine r_aload_n X 0 dX3_copyFrom_169 rfl rfl ?_
  obtain ⟨x79, e80, E⟩ := gb_some E
  refine r_getR X dX3_copyFrom_170 f_X3_24 e80 ?_
  refine r_iconst X (v := 0) dX3_copyFrom_173 (by decide) ?_
  refine r_bipush X (v := 16) dX3_copyFrom_174 (by decide) ?_
  obtain ⟨g81, e82, E⟩ := gb_some E
  refine r_copy X dX3_copyFrom_176 m_X3_81c (by decide) (Nat.le_of_ble_eq_true rfl) e82 ?_
  refine r_iconst X (v := 0) dX3_copyFrom_179 (by decide) ?_
  refine r_istore_n X 2 (L1 := [(2, .int 0), (0, .ref p), (1, .ref b0)]) dX3_copyFrom_180 rfl (by decide) rfl ?_
  obtain ⟨t83, g84, e85, E⟩ := cb_some E
  refine r_pick (by rfl : lpick [(2, .int 0), (0, .ref p), (1, .ref b0)] [1, 2, 0] = _) (t_x3_copyFrom_l181_r X hl0 hr hnm _ _ _ _ _ e85 ?_)
  cases E
  exact r_vret X hr dX3_copyFrom_210 (by decide) (by decide)
theorem t_x3_copyFrom {l : Launch} {G : GG} {p : Nat} {b0 : Nat} {g : AH} {r : Unit} {g1 : AH} (E : x3_copyFrom p b0 g = some (r, g1)) : Ct l G yX3_copyFrom cX3_copyFrom 3 none ⟨4, 0, 0, 171⟩ [.ref p, .ref b0] g none g1 :=
  ct_of (L0 := [(0, .ref p), (1, .ref b0)]) y_X3_copyFrom rfl (Nat.le_of_ble_eq_true rfl) fun M hl0 X hr hnm => t_x3_copyFrom_b X hl0 hr hnm E
