/-! functions and contracts, by program: addMany, set, addHiker, <init>, thrown, fail, tell, isBetween, copy, goAside, comeBack, get, increase, isHiker, isBunk, isBlanket, hikerWith, inBunk, inside, thicknessFor, warmthBare, warmthNow, isCold, snoreIn, noise, deed, countDeed, sumOf, burn, pay, payLogs, countWithout, share, dawn, passHour, passMany, toDawn, appendText, truncateText, byteAt, isLetter, isDigit, isFine, require, proceed, startText, isWord, parseEnd, parseNumber, parseRange, parseWord, parseOneOf, parseRow, parseHiker -/
def x9_addMany_l9 (a0 : Nat) (a1 : Int32) (a2 : Int32) (a4 : Int32) (s0 : Int32 × Int32) (g : AH) : Option (((Int32 × Int32) ⊕ (Unit)) × AH) :=
  if s0.2 < 0 then
  some (.inr (), g)
  else
  gb (getR 9 g a0 0) fun x2 => gb (astI 0 g x2 (a2 + s0.2) (s0.1 - s0.1 / 10 * 10)) fun g5 => some (.inl ((s0.1 / 10), (s0.2 + (-1))), g5)
def x9_addMany (p : Nat) (b0 : Int32) (b1 : Int32) (b2 : Int32) (b3 : Int32) (g : AH) : Option (Unit × AH) :=
  cb (loopX (x9_addMany_l9 p b0 b1 b3) 1000 (b2, (b3 - 1)) g) fun t1 g2 =>
  gb (getR 9 g2 p 0) fun x4 => gb (astI 0 g2 x4 b0 b3) fun g6 => some ((), g6)
def x9_set (p : Nat) (b0 : Int32) (b1 : Int32) (b2 : Int32) (g : AH) : Option (Unit × AH) :=
  gb (getR 9 g p 0) fun x1 => gb (astI 0 g x1 ((49 + (10 * b0)) + b1) b2) fun g3 => some ((), g3)
def x9_addHiker (p : Nat) (b0 : Int32) (b1 : Int32) (b2 : Int32) (g : AH) : Option (Unit × AH) :=
  gb (getR 9 g p 0) fun x1 => gb (aldI 0 g x1 12) fun x3 => gb (isO 9 g p) fun _ => cb (x9_set p x3 0 b0 g) fun r5 g6 => gb (isO 9 g6 p) fun _ => cb (x9_set p x3 1 b1 g6) fun r10 g11 => gb (isO 9 g11 p) fun _ => cb (x9_set p x3 2 b2 g11) fun r15 g16 => gb (isO 9 g16 p) fun _ => cb (x9_set p x3 4 (-1) g16) fun r20 g21 => gb (isO 9 g21 p) fun _ => cb (x9_set p x3 5 (-1) g21) fun r25 g26 => gb (getR 9 g26 p 0) fun x30 => gb (aldI 0 g26 x30 7) fun x32 => gb (astI 0 g26 x30 7 (x32 + b2)) fun g34 => gb (getR 9 g34 p 0) fun x36 => gb (aldI 0 g34 x36 12) fun x38 => gb (astI 0 g34 x36 12 (x38 + 1)) fun g40 => some ((), g40)
def x9_init (p : Nat) (g : AH) : Option (Unit × AH) :=
  cb (newA 0 (.inl (fun _ => 0)) g 149) fun x1 g2 => gb (putV 9 g2 p 0 (.ref x1)) fun g4 => cb (newA 0 (.inl (fun _ => 0)) g4 149) fun x6 g7 => gb (putV 9 g7 p 1 (.ref x6)) fun g9 => cb (newA 0 (.inl (fun _ => 0)) g9 894) fun x11 g12 => gb (putV 9 g12 p 2 (.ref x11)) fun g14 => cb (newA 0 (.inl (fun _ => 0)) g14 298) fun x16 g17 => gb (putV 9 g17 p 3 (.ref x16)) fun g19 => cb (newA 2 (.inl (fun _ => 0)) g19 2) fun x21 g22 => gb (putV 9 g22 p 4 (.ref x21)) fun g24 => cb (newA 0 (.inl (fun _ => 0)) g24 10) fun x26 g27 => gb (putV 9 g27 p 7 (.ref x26)) fun g29 => cb (newA 1 (.inl (fun _ => 0)) g29 500) fun x31 g32 => gb (putV 9 g32 p 8 (.ref x31)) fun g34 => gb (putV 9 g34 p 15 (.int (-1))) fun g36 => cb (newA 0 (.inl (fun _ => 0)) g36 93) fun x38 g39 => gb (putV 9 g39 p 16 (.ref x38)) fun g41 => cb (newA 2 (.inl (fun _ => 0)) g41 12) fun x43 g44 => gb (putV 9 g44 p 18 (.ref x43)) fun g46 => cb (newA 1 (.inl (fun _ => 0)) g46 300) fun x48 g49 => gb (putV 9 g49 p 19 (.ref x48)) fun g51 => gb (getR 9 g51 p 0) fun x53 => gb (astI 0 g51 x53 0 20) fun g55 => gb (getR 9 g55 p 0) fun x57 => gb (astI 0 g55 x57 8 20) fun g59 => gb (isO 9 g59 p) fun _ => cb (x9_addMany p 9 13 1310 5 g59) fun r61 g62 => gb (isO 9 g62 p) fun _ => cb (x9_addMany p 10 25 352 3 g62) fun r66 g67 => gb (isO 9 g67 p) fun _ => cb (x9_addMany p 11 37 6314 4 g67) fun r71 g72 => gb (isO 9 g72 p) fun _ => cb (x9_addHiker p 10 8 12 g72) fun r76 g77 => gb (isO 9 g77 p) fun _ => cb (x9_addHiker p 7 2 5 g77) fun r81 g82 => gb (isO 9 g82 p) fun _ => cb (x9_addHiker p 12 0 30 g82) fun r86 g87 => gb (isO 9 g87 p) fun _ => cb (x9_addHiker p 9 5 1 g87) fun r91 g92 => some ((), g92)
def x9_thrown (p : Nat) (g : AH) : Option (Int32 × AH) :=
  gb (getI 9 g p 6) fun x1 => some (x1, g)
def x9_fail (p : Nat) (b0 : Int32) (g : AH) : Option (Int32 × AH) :=
  gb (putV 9 g p 6 (.int b0)) fun g1 => some (0, g1)
def x9_tell (p : Nat) (b0 : Int32) (g : AH) : Option (Int32 × AH) :=
  gb (putV 9 g p 6 (.int 0)) fun g1 => some (b0, g1)
def x9_isBetween (b0 : Int32) (b1 : Int32) (b2 : Int32) (g : AH) : Option (Int32 × AH) :=
  if b0 < b1 then
  some (0, g)
  else
  if b2 < b0 then
  some (0, g)
  else
  some (1, g)
def x9_copy_l3 (a0 : Nat) (a1 : Int32) (a2 : Nat) (a3 : Int32) (s0 : Int32) (g : AH) : Option (((Int32) ⊕ (Unit)) × AH) :=
  if 149 ≤ s0 then
  some (.inr (), g)
  else
  gb (aldI 0 g a0 (a1 + s0)) fun x2 => gb (astI 0 g a2 (a3 + s0) x2) fun g4 => some (.inl (s0 + 1), g4)
def x9_copy (b0 : Nat) (b1 : Int32) (b2 : Nat) (b3 : Int32) (g : AH) : Option (Unit × AH) :=
  cb (loopX (x9_copy_l3 b0 b1 b2 b3) 1000 0 g) fun t1 g2 =>
  some ((), g2)
def x9_goAside (p : Nat) (g : AH) : Option (Unit × AH) :=
  gb (getR 9 g p 0) fun x1 => gb (getR 9 g p 1) fun x3 => cb (x9_copy x1 0 x3 0 g) fun r5 g6 => some ((), g6)
def x9_comeBack (p : Nat) (b0 : Int32) (g : AH) : Option (Int32 × AH) :=
  gb (getR 9 g p 1) fun x1 => gb (getR 9 g p 0) fun x3 => cb (x9_copy x1 0 x3 0 g) fun r5 g6 => some (b0, g6)
def x9_get (p : Nat) (b0 : Int32) (b1 : Int32) (g : AH) : Option (Int32 × AH) :=
  gb (getR 9 g p 0) fun x1 => gb (aldI 0 g x1 ((49 + (10 * b0)) + b1)) fun x3 => some (x3, g)
def x9_increase (p : Nat) (b0 : Int32) (b1 : Int32) (b2 : Int32) (g : AH) : Option (Unit × AH) :=
  gb (isO 9 g p) fun _ => cb (x9_get p b0 b1 g) fun r1 g2 => gb (isO 9 g2 p) fun _ => cb (x9_set p b0 b1 (r1 + b2) g2) fun r6 g7 => some ((), g7)
def x9_isHiker (p : Nat) (b0 : Int32) (g : AH) : Option (Int32 × AH) :=
  gb (getR 9 g p 0) fun x1 => gb (aldI 0 g x1 12) fun x3 => cb (x9_isBetween b0 0 (x3 - 1) g) fun r5 g6 => if bz r5 then some (r5, g6) else none
def x9_isBunk (p : Nat) (b0 : Int32) (g : AH) : Option (Int32 × AH) :=
  gb (getR 9 g p 0) fun x1 => gb (aldI 0 g x1 9) fun x3 => cb (x9_isBetween b0 0 (x3 - 1) g) fun r5 g6 => if bz r5 then some (r5, g6) else none
def x9_isBlanket (p : Nat) (b0 : Int32) (g : AH) : Option (Int32 × AH) :=
  gb (getR 9 g p 0) fun x1 => gb (aldI 0 g x1 10) fun x3 => cb (x9_isBetween b0 0 (x3 - 1) g) fun r5 g6 => if bz r5 then some (r5, g6) else none
def x9_hikerWith_l2 (a0 : Nat) (a1 : Int32) (a2 : Int32) (s0 : Int32) (g : AH) : Option (((Int32) ⊕ ((Unit) ⊕ Int32)) × AH) :=
  gb (getR 9 g a0 0) fun x1 => gb (aldI 0 g x1 12) fun x3 => if x3 ≤ s0 then
  some (.inr (.inl ()), g)
  else
  gb (isO 9 g a0) fun _ => cb (x9_get a0 s0 a1 g) fun r6 g7 => if r6 = a2 then
  some (.inr (.inr s0), g7)
  else
  some (.inl (s0 + 1), g7)
def x9_hikerWith (p : Nat) (b0 : Int32) (b1 : Int32) (g : AH) : Option (Int32 × AH) :=
  cb (loopX (x9_hikerWith_l2 p b0 b1) 1000 0 g) fun t1 g2 => Sum.elim (fun t4 =>
  some ((-1), g2)) (fun t5 => some (t5, g2)) t1
def x9_inBunk (p : Nat) (b0 : Int32) (g : AH) : Option (Int32 × AH) :=
  gb (isO 9 g p) fun _ => cb (x9_isBunk p b0 g) fun r1 g2 => if r1 = 0 then
  some ((-1), g2)
  else
  gb (isO 9 g2 p) fun _ => cb (x9_hikerWith p 4 b0 g2) fun r7 g8 => some (r7, g8)
def x9_inside (p : Nat) (g : AH) : Option (Int32 × AH) :=
  gb (getR 9 g p 0) fun x1 => gb (getR 9 g p 0) fun x3 => gb (aldI 0 g x3 3) fun x5 => gb (getR 9 g p 0) fun x7 => gb (aldI 0 g x7 11) fun x9 => if x9 = 0 then none else gb (aldI 0 g x1 (37 + (x5 - x5 / x9 * x9))) fun x12 => gb (getR 9 g p 0) fun x14 => gb (aldI 0 g x14 2) fun x16 => some ((x12 + x16), g)
def x9_thicknessFor (p : Nat) (b0 : Int32) (g : AH) : Option (Int32 × AH) :=
  gb (isO 9 g p) fun _ => cb (x9_get p b0 5 g) fun r1 g2 => if r1 = (-1) then
  some (0, g2)
  else
  gb (getR 9 g2 p 0) fun x7 => gb (aldI 0 g2 x7 (25 + r1)) fun x9 => some (x9, g2)
def x9_warmthBare_j49 (a0 : Nat) (a2 : Int32) (s0 : Int32) (s1 : Int32) (g : AH) : Option (Int32 × AH) :=
  gb (isO 9 g a0) fun _ => cb (x9_inside a0 g) fun r1 g2 => gb (getR 9 g2 a0 0) fun x6 => gb (aldI 0 g2 x6 (13 + a2)) fun x8 => some (((r1 + x8) + (s1 + s0)), g2)
def x9_warmthBare_j33 (a0 : Nat) (a2 : Int32) (s0 : Int32) (g : AH) : Option (Int32 × AH) :=
  gb (isO 9 g a0) fun _ => cb (x9_inBunk a0 (a2 + 1) g) fun r1 g2 => if r1 = (-1) then
  x9_warmthBare_j49 a0 a2 0 s0 g2
  else
  x9_warmthBare_j49 a0 a2 1 s0 g2
def x9_warmthBare (p : Nat) (b0 : Int32) (g : AH) : Option (Int32 × AH) :=
  gb (isO 9 g p) fun _ => cb (x9_get p b0 4 g) fun r1 g2 => if r1 = (-1) then
  gb (isO 9 g2 p) fun _ => cb (x9_inside p g2) fun r13 g14 => some (r13, g14)
  else
  gb (isO 9 g2 p) fun _ => cb (x9_inBunk p (r1 - 1) g2) fun r7 g8 => if r7 = (-1) then
  x9_warmthBare_j33 p r1 0 g8
  else
  x9_warmthBare_j33 p r1 1 g8
def x9_warmthNow (p : Nat) (b0 : Int32) (g : AH) : Option (Int32 × AH) :=
  gb (isO 9 g p) fun _ => cb (x9_warmthBare p b0 g) fun r1 g2 => gb (isO 9 g2 p) fun _ => cb (x9_thicknessFor p b0 g2) fun r6 g7 => some ((r1 + r6), g7)
def x9_isCold (p : Nat) (b0 : Int32) (g : AH) : Option (Int32 × AH) :=
  gb (isO 9 g p) fun _ => cb (x9_warmthNow p b0 g) fun r1 g2 => gb (isO 9 g2 p) fun _ => cb (x9_get p b0 0 g2) fun r6 g7 => if r6 ≤ r1 then
  some (0, g7)
  else
  some (1, g7)
def x9_snoreIn_j19  (g : AH) : Option (Int32 × AH) :=
  some (0, g)
def x9_snoreIn (p : Nat) (b0 : Int32) (g : AH) : Option (Int32 × AH) :=
  gb (isO 9 g p) fun _ => cb (x9_inBunk p b0 g) fun r1 g2 => if r1 = (-1) then
  x9_snoreIn_j19  g2
  else
  gb (isO 9 g2 p) fun _ => cb (x9_isCold p r1 g2) fun r7 g8 => if r7 = 0 then
  gb (isO 9 g8 p) fun _ => cb (x9_get p r1 1 g8) fun r13 g14 => some (r13, g14)
  else
  x9_snoreIn_j19  g8
def x9_noise (p : Nat) (b0 : Int32) (g : AH) : Option (Int32 × AH) :=
  gb (isO 9 g p) fun _ => cb (x9_snoreIn p (b0 - 1) g) fun r1 g2 => gb (isO 9 g2 p) fun _ => cb (x9_snoreIn p (b0 + 1) g2) fun r6 g7 => gb (isO 9 g7 p) fun _ => cb (x9_snoreIn p (b0 - 2) g7) fun r11 g12 => gb (isO 9 g12 p) fun _ => cb (x9_snoreIn p (b0 + 2) g12) fun r16 g17 => some (((r1 + r6) + ((r11 + r16) / 2)), g17)
def x9_deed (p : Nat) (b0 : Int32) (g : AH) : Option (Int32 × AH) :=
  gb (isO 9 g p) fun _ => cb (x9_isCold p b0 g) fun r1 g2 => if r1 = 0 then
  gb (isO 9 g2 p) fun _ => cb (x9_get p b0 4 g2) fun r7 g8 => if r7 = (-1) then
  some (3, g8)
  else
  gb (isO 9 g8 p) fun _ => cb (x9_get p b0 4 g8) fun r13 g14 => gb (isO 9 g14 p) fun _ => cb (x9_noise p r13 g14) fun r18 g19 => if r18 ≤ 6 then
  some (2, g19)
  else
  some (1, g19)
  else
  some (0, g2)
def x9_countDeed_j30_4 (a0 : Nat) (a1 : Int32) (a3 : Int32) (s0 : Int32) (s1 : Int32) (g : AH) : Option (((Int32 × Int32) ⊕ (Int32)) × AH) :=
  some (.inl ((s1 + s0), (a3 + 1)), g)
def x9_countDeed_l4 (a0 : Nat) (a1 : Int32) (s0 : Int32 × Int32) (g : AH) : Option (((Int32 × Int32) ⊕ (Int32)) × AH) :=
  gb (getR 9 g a0 0) fun x1 => gb (aldI 0 g x1 12) fun x3 => if x3 ≤ s0.2 then
  some (.inr s0.1, g)
  else
  gb (isO 9 g a0) fun _ => cb (x9_deed a0 s0.2 g) fun r6 g7 => if r6 = a1 then
  x9_countDeed_j30_4 a0 a1 s0.2 1 s0.1 g7
  else
  x9_countDeed_j30_4 a0 a1 s0.2 0 s0.1 g7
def x9_countDeed (p : Nat) (b0 : Int32) (g : AH) : Option (Int32 × AH) :=
  cb (loopX (x9_countDeed_l4 p b0) 1000 (0, 0) g) fun t1 g2 =>
  some (t1, g2)
def x9_sumOf_l4 (a0 : Nat) (a1 : Int32) (s0 : Int32 × Int32) (g : AH) : Option (((Int32 × Int32) ⊕ (Int32)) × AH) :=
  gb (getR 9 g a0 0) fun x1 => gb (aldI 0 g x1 12) fun x3 => if x3 ≤ s0.2 then
  some (.inr s0.1, g)
  else
  gb (isO 9 g a0) fun _ => cb (x9_get a0 s0.2 a1 g) fun r6 g7 => some (.inl ((s0.1 + r6), (s0.2 + 1)), g7)
def x9_sumOf (p : Nat) (b0 : Int32) (g : AH) : Option (Int32 × AH) :=
  cb (loopX (x9_sumOf_l4 p b0) 1000 (0, 0) g) fun t1 g2 =>
  some (t1, g2)
def x9_burn (p : Nat) (g : AH) : Option (Unit × AH) :=
  gb (getR 9 g p 0) fun x1 => gb (aldI 0 g x1 1) fun x3 => gb (getR 9 g p 0) fun x5 => gb (aldI 0 g x5 0) fun x7 => gb (getR 9 g p 0) fun x9 => gb (aldI 0 g x9 0) fun x11 => gb (astI 0 g x9 0 (x11 - (if x7 < x3 then x7 else x3))) fun g13 => gb (getR 9 g13 p 0) fun x15 => gb (aldI 0 g13 x15 4) fun x17 => gb (astI 0 g13 x15 4 (x17 + (if x7 < x3 then x7 else x3))) fun g19 => gb (getR 9 g19 p 0) fun x21 => gb (aldI 0 g19 x21 5) fun x23 => gb (astI 0 g19 x21 5 (x23 + (if x7 < x3 then x7 else x3))) fun g25 => gb (getR 9 g25 p 0) fun x27 => gb (getR 9 g25 p 0) fun x29 => gb (aldI 0 g25 x29 2) fun x31 => gb (astI 0 g25 x27 2 ((x31 / 2) + (4 * (if x7 < x3 then x7 else x3)))) fun g34 => some ((), g34)
def x9_pay (p : Nat) (b0 : Int32) (b1 : Int32) (g : AH) : Option (Int32 × AH) :=
  gb (isO 9 g p) fun _ => cb (x9_get p b0 2 g) fun r1 g2 => gb (isO 9 g2 p) fun _ => cb (x9_increase p b0 2 (-(if r1 < b1 then r1 else b1)) g2) fun r6 g7 => gb (isO 9 g7 p) fun _ => cb (x9_increase p b0 3 (b1 - (if r1 < b1 then r1 else b1)) g7) fun r11 g12 => gb (getR 9 g12 p 7) fun x16 => gb (aldI 0 g12 x16 b0) fun x18 => gb (astI 0 g12 x16 b0 (x18 + b1)) fun g20 => some ((if r1 < b1 then r1 else b1), g20)
def x9_payLogs_j49_11 (a0 : Nat) (a1 : Int32) (a2 : Int32) (s0 : Int32) (s1 : Int32) (g : AH) : Option (((Int32) ⊕ (Unit)) × AH) :=
  gb (getR 9 g a0 0) fun x1 => gb (aldI 0 g x1 6) fun x3 => gb (isO 9 g a0) fun _ => cb (x9_pay a0 a2 (s1 + s0) g) fun r5 g6 => gb (astI 0 g6 x1 6 (x3 + r5)) fun g10 => some (.inl (a2 + 1), g10)
def x9_payLogs_l11 (a0 : Nat) (a1 : Int32) (s0 : Int32) (g : AH) : Option (((Int32) ⊕ (Unit)) × AH) :=
  gb (getR 9 g a0 0) fun x1 => gb (aldI 0 g x1 12) fun x3 => if x3 ≤ s0 then
  some (.inr (), g)
  else
  gb (getR 9 g a0 0) fun x6 => gb (aldI 0 g x6 12) fun x8 => if x8 = 0 then none else gb (getR 9 g a0 0) fun x11 => gb (aldI 0 g x11 12) fun x13 => if x13 = 0 then none else if (a1 - a1 / x13 * x13) ≤ s0 then
  x9_payLogs_j49_11 a0 a1 s0 0 (a1 / x8) g
  else
  x9_payLogs_j49_11 a0 a1 s0 1 (a1 / x8) g
def x9_payLogs (p : Nat) (g : AH) : Option (Unit × AH) :=
  gb (getR 9 g p 0) fun x1 => gb (aldI 0 g x1 5) fun x3 => cb (loopX (x9_payLogs_l11 p (2 * x3)) 1000 0 g) fun t5 g6 =>
  gb (getR 9 g6 p 0) fun x8 => gb (astI 0 g6 x8 5 0) fun g10 => some ((), g10)
def x9_countWithout_j31_4 (a0 : Nat) (a2 : Int32) (s0 : Int32) (s1 : Int32) (g : AH) : Option (((Int32 × Int32) ⊕ (Int32)) × AH) :=
  some (.inl ((s1 + s0), (a2 + 1)), g)
def x9_countWithout_l4 (a0 : Nat) (s0 : Int32 × Int32) (g : AH) : Option (((Int32 × Int32) ⊕ (Int32)) × AH) :=
  gb (getR 9 g a0 0) fun x1 => gb (aldI 0 g x1 12) fun x3 => if x3 ≤ s0.2 then
  some (.inr s0.1, g)
  else
  gb (isO 9 g a0) fun _ => cb (x9_get a0 s0.2 5 g) fun r6 g7 => if r6 = (-1) then
  x9_countWithout_j31_4 a0 s0.2 1 s0.1 g7
  else
  x9_countWithout_j31_4 a0 s0.2 0 s0.1 g7
def x9_countWithout (p : Nat) (g : AH) : Option (Int32 × AH) :=
  cb (loopX (x9_countWithout_l4 p) 1000 (0, 0) g) fun t1 g2 =>
  some (t1, g2)
def x9_share_j52_20 (a0 : Nat) (a1 : Int32) (a2 : Int32) (a3 : Int32) (a4 : Int32) (s0 : Int32) (s1 : Int32) (s2 : Int32) (s3 : Nat) (g : AH) : Option (((Int32) ⊕ (Unit)) × AH) :=
  gb (isO 9 g s3) fun _ => cb (x9_increase s3 s2 s1 s0 g) fun r1 g2 => some (.inl (a4 + 1), g2)
def x9_share_l20 (a0 : Nat) (a1 : Int32) (a2 : Int32) (a3 : Int32) (s0 : Int32) (g : AH) : Option (((Int32) ⊕ (Unit)) × AH) :=
  gb (getR 9 g a0 0) fun x1 => gb (aldI 0 g x1 12) fun x3 => if x3 ≤ s0 then
  some (.inr (), g)
  else
  gb (isO 9 g a0) fun _ => cb (x9_get a0 s0 5 g) fun r6 g7 => if r6 = (-1) then
  x9_share_j52_20 a0 a1 a2 a3 s0 a3 2 s0 a0 g7
  else
  x9_share_j52_20 a0 a1 a2 a3 s0 0 2 s0 a0 g7
def x9_share_j16 (a0 : Nat) (a1 : Int32) (a2 : Int32) (s0 : Int32) (g : AH) : Option (Unit × AH) :=
  cb (loopX (x9_share_l20 a0 a1 a2 s0) 1000 0 g) fun t1 g2 =>
  gb (getR 9 g2 a0 0) fun x4 => gb (aldI 0 g2 x4 6) fun x6 => gb (astI 0 g2 x4 6 (x6 + (a1 - (s0 * a2)))) fun g8 => some ((), g8)
def x9_share (p : Nat) (b0 : Int32) (g : AH) : Option (Unit × AH) :=
  gb (isO 9 g p) fun _ => cb (x9_countWithout p g) fun r1 g2 => if r1 = 0 then
  x9_share_j16 p b0 r1 0 g2
  else
  if r1 = 0 then none else x9_share_j16 p b0 r1 (b0 / r1) g2
def x9_dawn_l2 (a0 : Nat) (s0 : Int32) (g : AH) : Option (((Int32) ⊕ (Unit)) × AH) :=
  gb (getR 9 g a0 0) fun x1 => gb (aldI 0 g x1 12) fun x3 => if x3 ≤ s0 then
  some (.inr (), g)
  else
  gb (getR 9 g a0 7) fun x6 => gb (astI 0 g x6 s0 0) fun g8 => gb (getR 9 g8 a0 0) fun x10 => gb (aldI 0 g8 x10 6) fun x12 => gb (isO 9 g8 a0) fun _ => cb (x9_pay a0 s0 3 g8) fun r14 g15 => gb (astI 0 g15 x10 6 (x12 + r14)) fun g19 => some (.inl (s0 + 1), g19)
def x9_dawn_l50 (a0 : Nat) (s0 : Int32 × Int32) (g : AH) : Option (((Int32 × Int32) ⊕ (Int32)) × AH) :=
  gb (getR 9 g a0 0) fun x1 => gb (aldI 0 g x1 12) fun x3 => if x3 ≤ s0.2 then
  some (.inr s0.1, g)
  else
  gb (isO 9 g a0) fun _ => cb (x9_thicknessFor a0 s0.2 g) fun r6 g7 => gb (isO 9 g7 a0) fun _ => cb (x9_pay a0 s0.2 ((r6 + 2) / 3) g7) fun r12 g13 => some (.inl ((s0.1 + r12), (s0.2 + 1)), g13)
def x9_dawn (p : Nat) (g : AH) : Option (Unit × AH) :=
  cb (loopX (x9_dawn_l2 p) 1000 0 g) fun t1 g2 =>
  gb (isO 9 g2 p) fun _ => cb (x9_payLogs p g2) fun r4 g5 => cb (loopX (x9_dawn_l50 p) 1000 (0, 0) g5) fun t9 g10 =>
  gb (isO 9 g10 p) fun _ => cb (x9_share p t9 g10) fun r12 g13 => some ((), g13)
def x9_passHour_l6 (a0 : Nat) (s0 : Int32) (g : AH) : Option (((Int32) ⊕ (Unit)) × AH) :=
  gb (getR 9 g a0 0) fun x1 => gb (aldI 0 g x1 12) fun x3 => if x3 ≤ s0 then
  some (.inr (), g)
  else
  gb (isO 9 g a0) fun _ => cb (x9_deed a0 s0 g) fun r6 g7 => gb (isO 9 g7 a0) fun _ => cb (x9_increase a0 s0 (6 + r6) 1 g7) fun r11 g12 => some (.inl (s0 + 1), g12)
def x9_passHour (p : Nat) (g : AH) : Option (Unit × AH) :=
  gb (isO 9 g p) fun _ => cb (x9_burn p g) fun r1 g2 => cb (loopX (x9_passHour_l6 p) 1000 0 g2) fun t6 g7 =>
  gb (getR 9 g7 p 0) fun x9 => gb (aldI 0 g7 x9 3) fun x11 => gb (astI 0 g7 x9 3 (x11 + 1)) fun g13 => gb (getR 9 g13 p 0) fun x15 => gb (aldI 0 g13 x15 3) fun x17 => if (x17 - x17 / 8 * 8) = 0 then
  gb (isO 9 g13 p) fun _ => cb (x9_dawn p g13) fun r21 g22 => some ((), g22)
  else
  some ((), g13)
def x9_passMany_l2 (a0 : Nat) (a1 : Int32) (s0 : Int32) (g : AH) : Option (((Int32) ⊕ (Unit)) × AH) :=
  if a1 ≤ s0 then
  some (.inr (), g)
  else
  gb (isO 9 g a0) fun _ => cb (x9_passHour a0 g) fun r2 g3 => some (.inl (s0 + 1), g3)
def x9_passMany (p : Nat) (b0 : Int32) (g : AH) : Option (Unit × AH) :=
  cb (loopX (x9_passMany_l2 p b0) 1000 0 g) fun t1 g2 =>
  some ((), g2)
def x9_toDawn (p : Nat) (g : AH) : Option (Int32 × AH) :=
  gb (getR 9 g p 0) fun x1 => gb (aldI 0 g x1 3) fun x3 => some ((8 - (x3 - x3 / 8 * 8)), g)
def x9_appendText_l25 (a0 : Nat) (a1 : Int32) (s0 : Int32) (g : AH) : Option (((Int32) ⊕ (Unit)) × AH) :=
  if 4 ≤ s0 then
  some (.inr (), g)
  else
  gb (getR 9 g a0 8) fun x2 => gb (getI 9 g a0 9) fun x4 => gb (astI 1 g x2 (x4 + s0) (((a1 >>> ((24 - (8 * s0)) &&& 31)).toInt8.toInt32).toInt8.toInt32)) fun g6 => some (.inl (s0 + 1), g6)
def x9_appendText (p : Nat) (b0 : Int32) (g : AH) : Option (Int32 × AH) :=
  gb (putV 9 g p 6 (.int 0)) fun g1 => gb (getI 9 g1 p 9) fun x3 => if (x3 + 4) ≤ 500 then
  cb (loopX (x9_appendText_l25 p b0) 1000 0 g1) fun t6 g7 =>
  gb (getI 9 g7 p 9) fun x9 => gb (putV 9 g7 p 9 (.int (x9 + 4))) fun g11 => gb (getI 9 g11 p 9) fun x13 => some (x13, g11)
  else
  gb (isO 9 g1 p) fun _ => cb (x9_fail p 1 g1) fun r15 g16 => some (r15, g16)
def x9_truncateText (p : Nat) (b0 : Int32) (g : AH) : Option (Int32 × AH) :=
  gb (putV 9 g p 6 (.int 0)) fun g1 => gb (getI 9 g1 p 9) fun x3 => cb (x9_isBetween b0 0 x3 g1) fun r5 g6 => if r5 = 0 then
  gb (isO 9 g6 p) fun _ => cb (x9_fail p 1 g6) fun r13 g14 => some (r13, g14)
  else
  gb (putV 9 g6 p 9 (.int b0)) fun g9 => gb (getI 9 g9 p 9) fun x11 => some (x11, g9)
def x9_byteAt (p : Nat) (b0 : Int32) (g : AH) : Option (Int32 × AH) :=
  gb (getI 9 g p 9) fun x1 => if x1 ≤ b0 then
  some ((-1), g)
  else
  gb (getR 9 g p 8) fun x4 => gb (aldI 1 g x4 b0) fun x6 => some ((x6 &&& 255), g)
def x9_isLetter (b0 : Int32) (g : AH) : Option (Int32 × AH) :=
  cb (x9_isBetween b0 97 122 g) fun r1 g2 => if bz r1 then some (r1, g2) else none
def x9_isDigit (b0 : Int32) (g : AH) : Option (Int32 × AH) :=
  cb (x9_isBetween b0 48 57 g) fun r1 g2 => if bz r1 then some (r1, g2) else none
def x9_isFine (p : Nat) (g : AH) : Option (Int32 × AH) :=
  gb (getI 9 g p 14) fun x1 => if x1 = 0 then
  some (1, g)
  else
  some (0, g)
def x9_require (p : Nat) (b0 : Int32) (b1 : Int32) (g : AH) : Option (Unit × AH) :=
  gb (isO 9 g p) fun _ => cb (x9_isFine p g) fun r1 g2 => if r1 = 0 then
  some ((), g2)
  else
  if b0 = 0 then
  gb (putV 9 g2 p 14 (.int b1)) fun g8 => gb (getI 9 g8 p 11) fun x10 => gb (putV 9 g8 p 15 (.int x10)) fun g12 => some ((), g12)
  else
  some ((), g2)
def x9_proceed_j34_8 (a0 : Nat) (g : AH) : Option (((Unit) ⊕ (Unit)) × AH) :=
  gb (getI 9 g a0 12) fun x1 => gb (putV 9 g a0 12 (.int (x1 + 1))) fun g3 => some (.inl (), g3)
def x9_proceed_l8 (a0 : Nat) (s0 : Unit) (g : AH) : Option (((Unit) ⊕ (Unit)) × AH) :=
  gb (getI 9 g a0 12) fun x1 => gb (isO 9 g a0) fun _ => cb (x9_byteAt a0 x1 g) fun r3 g4 => if r3 = 32 then
  x9_proceed_j34_8 a0 g4
  else
  gb (getI 9 g4 a0 12) fun x9 => gb (isO 9 g4 a0) fun _ => cb (x9_byteAt a0 x9 g4) fun r11 g12 => if r11 = 10 then
  x9_proceed_j34_8 a0 g12
  else
  some (.inr (), g12)
def x9_proceed_l144 (a0 : Nat) (s0 : Unit) (g : AH) : Option (((Unit) ⊕ (Unit)) × AH) :=
  gb (getI 9 g a0 12) fun x1 => gb (isO 9 g a0) fun _ => cb (x9_byteAt a0 x1 g) fun r3 g4 => cb (x9_isDigit r3 g4) fun r8 g9 => if r8 = 0 then
  some (.inr (), g9)
  else
  gb (getI 9 g9 a0 13) fun x12 => gb (getI 9 g9 a0 12) fun x14 => gb (isO 9 g9 a0) fun _ => cb (x9_byteAt a0 x14 g9) fun r16 g17 => gb (putV 9 g17 a0 13 (.int (if (((10 * x12) + r16) - 48) < 100000 then (((10 * x12) + r16) - 48) else 100000))) fun g21 => gb (getI 9 g21 a0 12) fun x23 => gb (putV 9 g21 a0 12 (.int (x23 + 1))) fun g25 => some (.inl (), g25)
def x9_proceed_l97 (a0 : Nat) (s0 : Unit) (g : AH) : Option (((Unit) ⊕ (Unit)) × AH) :=
  gb (getI 9 g a0 12) fun x1 => gb (isO 9 g a0) fun _ => cb (x9_byteAt a0 x1 g) fun r3 g4 => cb (x9_isLetter r3 g4) fun r8 g9 => if r8 = 0 then
  some (.inr (), g9)
  else
  gb (getI 9 g9 a0 12) fun x12 => gb (putV 9 g9 a0 12 (.int (x12 + 1))) fun g14 => some (.inl (), g14)
def x9_proceed (p : Nat) (g : AH) : Option (Unit × AH) :=
  gb (isO 9 g p) fun _ => cb (x9_isFine p g) fun r1 g2 => if r1 = 0 then
  some ((), g2)
  else
  cb (loopX (x9_proceed_l8 p) 1000 () g2) fun t7 g8 =>
  gb (getI 9 g8 p 12) fun x10 => gb (putV 9 g8 p 11 (.int x10)) fun g12 => gb (getI 9 g12 p 11) fun x14 => gb (isO 9 g12 p) fun _ => cb (x9_byteAt p x14 g12) fun r16 g17 => if r16 = (-1) then
  gb (putV 9 g17 p 10 (.int 0)) fun g51 => some ((), g51)
  else
  gb (getI 9 g17 p 12) fun x22 => gb (putV 9 g17 p 12 (.int (x22 + 1))) fun g24 => cb (x9_isLetter r16 g24) fun r26 g27 => if r26 = 0 then
  cb (x9_isDigit r16 g27) fun r30 g31 => if r30 = 0 then
  if r16 = 59 then
  gb (putV 9 g31 p 10 (.int 3)) fun g37 => some ((), g37)
  else
  gb (putV 9 g31 p 10 (.int 4)) fun g35 => some ((), g35)
  else
  gb (putV 9 g31 p 10 (.int 2)) fun g39 => gb (putV 9 g39 p 13 (.int (r16 - 48))) fun g41 => cb (loopX (x9_proceed_l144 p) 1000 () g41) fun t43 g44 =>
  some ((), g44)
  else
  gb (putV 9 g27 p 10 (.int 1)) fun g46 => cb (loopX (x9_proceed_l97 p) 1000 () g46) fun t48 g49 =>
  some ((), g49)
def x9_startText (p : Nat) (g : AH) : Option (Unit × AH) :=
  gb (putV 9 g p 14 (.int 0)) fun g1 => gb (putV 9 g1 p 15 (.int (-1))) fun g3 => gb (putV 9 g3 p 12 (.int 0)) fun g5 => gb (putV 9 g5 p 17 (.int 0)) fun g7 => gb (isO 9 g7 p) fun _ => cb (x9_proceed p g7) fun r9 g10 => some ((), g10)
def x9_isWord_l28 (a0 : Nat) (a1 : Nat) (s0 : Int32) (g : AH) : Option (((Int32) ⊕ ((Unit) ⊕ Int32)) × AH) :=
  gb (strLen a1) fun x1 => if x1 ≤ s0 then
  some (.inr (.inl ()), g)
  else
  gb (getI 9 g a0 11) fun x4 => gb (isO 9 g a0) fun _ => cb (x9_byteAt a0 (x4 + s0) g) fun r6 g7 => gb (strAt a1 s0) fun x11 => if r6 = x11 then
  some (.inl (s0 + 1), g7)
  else
  some (.inr (.inr 0), g7)
def x9_isWord (p : Nat) (b0 : Nat) (g : AH) : Option (Int32 × AH) :=
  gb (getI 9 g p 10) fun x1 => if x1 = 1 then
  gb (getI 9 g p 12) fun x4 => gb (getI 9 g p 11) fun x6 => gb (strLen b0) fun x8 => if (x4 - x6) = x8 then
  cb (loopX (x9_isWord_l28 p b0) 1000 0 g) fun t11 g12 => Sum.elim (fun t14 =>
  some (1, g12)) (fun t15 => some (t15, g12)) t11
  else
  some (0, g)
  else
  some (0, g)
def x9_parseEnd_j14 (a0 : Nat) (s0 : Int32) (s1 : Nat) (g : AH) : Option (Unit × AH) :=
  gb (isO 9 g s1) fun _ => cb (x9_require s1 s0 1 g) fun r1 g2 => gb (isO 9 g2 a0) fun _ => cb (x9_proceed a0 g2) fun r6 g7 => some ((), g7)
def x9_parseEnd (p : Nat) (g : AH) : Option (Unit × AH) :=
  gb (getI 9 g p 10) fun x1 => if x1 = 3 then
  x9_parseEnd_j14 p 1 p g
  else
  x9_parseEnd_j14 p 0 p g
def x9_parseNumber_j63 (a0 : Nat) (s0 : Int32) (g : AH) : Option (Int32 × AH) :=
  gb (isO 9 g a0) fun _ => cb (x9_proceed a0 g) fun r1 g2 => some (s0, g2)
def x9_parseNumber_j44 (a0 : Nat) (a1 : Int32) (s0 : Int32) (s1 : Nat) (g : AH) : Option (Int32 × AH) :=
  gb (isO 9 g s1) fun _ => cb (x9_require s1 s0 2 g) fun r1 g2 => gb (isO 9 g2 a0) fun _ => cb (x9_isFine a0 g2) fun r6 g7 => if r6 = 0 then
  x9_parseNumber_j63 a0 a1 g7
  else
  gb (getI 9 g7 a0 13) fun x12 => x9_parseNumber_j63 a0 x12 g7
def x9_parseNumber_j39 (a0 : Nat) (a1 : Int32) (s0 : Nat) (g : AH) : Option (Int32 × AH) :=
  x9_parseNumber_j44 a0 a1 1 s0 g
def x9_parseNumber_j14 (a0 : Nat) (a1 : Int32) (a2 : Int32) (s0 : Int32) (s1 : Nat) (g : AH) : Option (Int32 × AH) :=
  gb (isO 9 g s1) fun _ => cb (x9_require s1 s0 1 g) fun r1 g2 => gb (getI 9 g2 a0 10) fun x6 => if x6 = 2 then
  gb (getI 9 g2 a0 13) fun x9 => cb (x9_isBetween x9 a1 a2 g2) fun r11 g12 => if r11 = 0 then
  x9_parseNumber_j44 a0 a1 0 a0 g12
  else
  x9_parseNumber_j39 a0 a1 a0 g12
  else
  x9_parseNumber_j39 a0 a1 a0 g2
def x9_parseNumber (p : Nat) (b0 : Int32) (b1 : Int32) (g : AH) : Option (Int32 × AH) :=
  gb (getI 9 g p 10) fun x1 => if x1 = 2 then
  x9_parseNumber_j14 p b0 b1 1 p g
  else
  x9_parseNumber_j14 p b0 b1 0 p g
def x9_parseRange (p : Nat) (b0 : Int32) (b1 : Int32) (g : AH) : Option (Int32 × AH) :=
  gb (isO 9 g p) fun _ => cb (x9_isFine p g) fun r1 g2 => if r1 = 0 then
  some (b0, g2)
  else
  gb (isO 9 g2 p) fun _ => cb (x9_parseNumber p b0 b1 g2) fun r7 g8 => some (r7, g8)
def x9_parseWord (p : Nat) (b0 : Nat) (g : AH) : Option (Unit × AH) :=
  gb (isO 9 g p) fun _ => cb (x9_isWord p b0 g) fun r1 g2 => gb (isO 9 g2 p) fun _ => cb (x9_require p r1 1 g2) fun r6 g7 => gb (isO 9 g7 p) fun _ => cb (x9_proceed p g7) fun r11 g12 => some ((), g12)
def x9_parseOneOf_j88 (a0 : Nat) (g : AH) : Option (Unit × AH) :=
  gb (isO 9 g a0) fun _ => cb (x9_proceed a0 g) fun r1 g2 => some ((), g2)
def x9_parseOneOf_j50 (a0 : Nat) (a1 : Int32) (a2 : Int32) (s0 : Int32) (s1 : Nat) (g : AH) : Option (Unit × AH) :=
  gb (isO 9 g s1) fun _ => cb (x9_require s1 s0 3 g) fun r1 g2 => gb (isO 9 g2 a0) fun _ => cb (x9_isFine a0 g2) fun r6 g7 => if r6 = 0 then
  x9_parseOneOf_j88 a0 g7
  else
  gb (getR 9 g7 a0 0) fun x12 => gb (getR 9 g7 a0 0) fun x14 => gb (aldI 0 g7 x14 a1) fun x16 => gb (getI 9 g7 a0 13) fun x18 => gb (astI 0 g7 x12 (a2 + x16) x18) fun g20 => gb (getR 9 g20 a0 0) fun x22 => gb (aldI 0 g20 x22 a1) fun x24 => gb (astI 0 g20 x22 a1 (x24 + 1)) fun g26 => x9_parseOneOf_j88 a0 g26
def x9_parseOneOf_j14 (a0 : Nat) (a1 : Int32) (a2 : Int32) (a3 : Int32) (a4 : Int32) (s0 : Int32) (s1 : Nat) (g : AH) : Option (Unit × AH) :=
  gb (isO 9 g s1) fun _ => cb (x9_require s1 s0 1 g) fun r1 g2 => gb (getI 9 g2 a0 13) fun x6 => cb (x9_isBetween x6 a3 a4 g2) fun r8 g9 => gb (isO 9 g9 a0) fun _ => cb (x9_require a0 r8 2 g9) fun r11 g12 => gb (getR 9 g12 a0 0) fun x16 => gb (aldI 0 g12 x16 a1) fun x18 => if 12 ≤ x18 then
  x9_parseOneOf_j50 a0 a1 a2 0 a0 g12
  else
  x9_parseOneOf_j50 a0 a1 a2 1 a0 g12
def x9_parseOneOf (p : Nat) (b0 : Int32) (b1 : Int32) (b2 : Int32) (b3 : Int32) (g : AH) : Option (Unit × AH) :=
  gb (getI 9 g p 10) fun x1 => if x1 = 2 then
  x9_parseOneOf_j14 p b0 b1 b2 b3 1 p g
  else
  x9_parseOneOf_j14 p b0 b1 b2 b3 0 p g
def x9_parseRow_j26_0 (a0 : Nat) (a1 : Int32) (a2 : Int32) (a3 : Int32) (a4 : Int32) (a5 : Int32) (g : AH) : Option (((Unit) ⊕ (Unit)) × AH) :=
  gb (isO 9 g a0) fun _ => cb (x9_parseOneOf a0 a1 a2 a3 a4 g) fun r1 g2 => some (.inl (), g2)
def x9_parseRow_l0 (a0 : Nat) (a1 : Int32) (a2 : Int32) (a3 : Int32) (a4 : Int32) (a5 : Int32) (s0 : Unit) (g : AH) : Option (((Unit) ⊕ (Unit)) × AH) :=
  gb (isO 9 g a0) fun _ => cb (x9_isFine a0 g) fun r1 g2 => if r1 = 0 then
  some (.inr (), g2)
  else
  gb (getR 9 g2 a0 0) fun x7 => gb (aldI 0 g2 x7 a1) fun x9 => if x9 < a5 then
  x9_parseRow_j26_0 a0 a1 a2 a3 a4 a5 g2
  else
  gb (getI 9 g2 a0 10) fun x12 => if x12 = 3 then
  some (.inr (), g2)
  else
  x9_parseRow_j26_0 a0 a1 a2 a3 a4 a5 g2
def x9_parseRow_j38 (a0 : Nat) (g : AH) : Option (Unit × AH) :=
  gb (isO 9 g a0) fun _ => cb (x9_parseEnd a0 g) fun r1 g2 => some ((), g2)
def x9_parseRow (p : Nat) (b0 : Int32) (b1 : Int32) (b2 : Int32) (b3 : Int32) (b4 : Int32) (g : AH) : Option (Unit × AH) :=
  cb (loopX (x9_parseRow_l0 p b0 b1 b2 b3 b4) 1000 () g) fun t1 g2 =>
  x9_parseRow_j38 p g2
def x9_parseHiker_j29 (a0 : Nat) (s0 : Int32) (s1 : Nat) (g : AH) : Option (Unit × AH) :=
  gb (isO 9 g s1) fun _ => cb (x9_require s1 s0 3 g) fun r1 g2 => gb (isO 9 g2 a0) fun _ => cb (x9_proceed a0 g2) fun r6 g7 => gb (isO 9 g7 a0) fun _ => cb (x9_parseRange a0 1 30 g7) fun r11 g12 => gb (isO 9 g12 a0) fun _ => cb (x9_parseRange a0 0 9 g12) fun r16 g17 => gb (isO 9 g17 a0) fun _ => cb (x9_parseRange a0 0 99 g17) fun r21 g22 => gb (isO 9 g22 a0) fun _ => cb (x9_parseEnd a0 g22) fun r26 g27 => gb (isO 9 g27 a0) fun _ => cb (x9_isFine a0 g27) fun r31 g32 => if r31 = 0 then
  some ((), g32)
  else
  gb (isO 9 g32 a0) fun _ => cb (x9_addHiker a0 r11 r16 r21 g32) fun r37 g38 => some ((), g38)
def x9_parseHiker (p : Nat) (g : AH) : Option (Unit × AH) :=
  gb (isO 9 g p) fun _ => cb (x9_isWord p 5 g) fun r1 g2 => gb (isO 9 g2 p) fun _ => cb (x9_require p r1 1 g2) fun r6 g7 => gb (getR 9 g7 p 0) fun x11 => gb (aldI 0 g7 x11 12) fun x13 => if 10 ≤ x13 then
  x9_parseHiker_j29 p 0 p g7
  else
  x9_parseHiker_j29 p 1 p g7
set_option maxHeartbeats 4000000 in
set_option maxRecDepth 100000 in
theorem t_x9_addMany_l9 {l : Launch} {G : GG} {M : MC} (X : CX M G cX9_addMany 7 RX9 ⟨1, 0, 0, 60⟩) (hl0 : M.2.1 = l) (hr : (mM M).sig.returnType = none) (hnm : (mM M).name = yX9_addMany.name) {Q : State → Prop} {kc ks : Nat} {s9 : ((Int32 × Int32) ⊕ (Unit))} {g1 : AH} {a0 : Nat} {a1 : Int32} {a2 : Int32} {a4 : Int32} {s0 : Int32 × Int32} (hc : ∀ s1, s9 = .inl s1 → WW M G 7 Q kc ks g1 9 [(0, .ref a0), (1, .int a1), (2, .int a2), (4, .int a4), (5, .int s1.1), (6, .int s1.2)] []) (hx : ∀ t, s9 = .inr t → WW M G 7 Q kc ks g1 41 [(0, .ref a0), (1, .int a1), (4, .int a4)] []) {g : AH} (E : x9_addMany_l9 a0 a1 a2 a4 s0 g = some (s9, g1)) : WW M G 7 Q kc ks g 9 [(0, .ref a0), (1, .int a1), (2, .int a2), (4, .int a4), (5, .int s0.1), (6, .int s0.2)] [] := by
  unfold x9_addMany_l9 at E
  refine r_iload X dX9_addMany_9 rfl ?_
  refine r_if_lt X 41 dX9_addMany_11 (by decide) (fun c1 => ?_) (fun c1 => ?_)
  · rw [if_pos c1] at E
    cases E
    exact r_pick (by rfl : lpick [(0, .ref a0), (1, .int a1), (2, .int a2), (4, .int a4), (5, .int s0.1), (6, .int s0.2)] [0, 1, 3] = _) (hx _ rfl)
  · rw [if_neg c1] at E
    refine r_aload_n X 0 dX9_addMany_14 rfl rfl ?_
    obtain ⟨x2, e3, E⟩ := gb_some E
    refine r_getR X dX9_addMany_15 f_X9_7 e3 ?_
    refine r_iload_n X 2 dX9_addMany_18 rfl rfl ?_
    refine r_iload X dX9_addMany_19 rfl ?_
    refine r_iadd X dX9_addMany_21 ?_
    refine r_iload X dX9_addMany_22 rfl ?_
    refine r_bipush X (v := 10) dX9_addMany_24 (by decide) ?_
    refine r_irem X dX9_addMany_26 (by decide) ?_
    obtain ⟨g5, e6, E⟩ := gb_some E
    refine r_iast X dX9_addMany_27 e6 ?_
    refine r_iload X dX9_addMany_28 rfl ?_
    refine r_bipush X (v := 10) dX9_addMany_30 (by decide) ?_
    refine r_idiv X dX9_addMany_32 (by decide) ?_
    refine r_istore X (L1 := [(5, .int (s0.1 / 10)), (0, .ref a0), (1, .int a1), (2, .int a2), (4, .int a4), (6, .int s0.2)]) dX9_addMany_33 (by decide) rfl ?_
    refine r_iinc X (v := (s0.2 + (-1))) (L1 := [(6, .int (s0.2 + (-1))), (5, .int (s0.1 / 10)), (0, .ref a0), (1, .int a1), (2, .int a2), (4, .int a4)]) dX9_addMany_35 rfl rfl (by decide) rfl ?_
    refine r_goto X 9 dX9_addMany_38 (by decide) ?_
    cases E
    exact r_pick (by rfl : lpick [(6, .int (s0.2 + (-1))), (5, .int (s0.1 / 10)), (0, .ref a0), (1, .int a1), (2, .int a2), (4, .int a4)] [2, 3, 4, 5, 1, 0] = _) (hc _ rfl)
set_option maxHeartbeats 4000000 in
theorem t_x9_addMany_l9_r {l : Launch} {G : GG} {M : MC} (X : CX M G cX9_addMany 7 RX9 ⟨1, 0, 0, 60⟩) (hl0 : M.2.1 = l) (hr : (mM M).sig.returnType = none) (hnm : (mM M).name = yX9_addMany.name) {Q : State → Prop} {kc ks : Nat} {a0 : Nat} {a1 : Int32} {a2 : Int32} {a4 : Int32} : ∀ (n : Nat) (s0 : Int32 × Int32) (g : AH) (t : (Unit)) (g1 : AH), loopX (x9_addMany_l9 a0 a1 a2 a4) n s0 g = some (t, g1) → WW M G 7 Q kc ks g1 41 [(0, .ref a0), (1, .int a1), (4, .int a4)] [] → WW M G 7 Q kc ks g 9 [(0, .ref a0), (1, .int a1), (2, .int a2), (4, .int a4), (5, .int s0.1), (6, .int s0.2)] [] :=
  loop_cps (K := fun t g1 => WW M G 7 Q kc ks g1 41 [(0, .ref a0), (1, .int a1), (4, .int a4)] []) (fun _ s0 g => WW M G 7 Q kc ks g 9 [(0, .ref a0), (1, .int a1), (2, .int a2), (4, .int a4), (5, .int s0.1), (6, .int s0.2)] []) (fun n s0 g st g1 E hc hx => t_x9_addMany_l9 X hl0 hr hnm hc hx E)
set_option maxHeartbeats 4000000 in
set_option maxRecDepth 100000 in
theorem t_x9_addMany_b {l : Launch} {G : GG} {M : MC} (X : CX M G cX9_addMany 7 RX9 ⟨1, 0, 0, 60⟩) (hl0 : M.2.1 = l) (hr : (mM M).sig.returnType = none) (hnm : (mM M).name = yX9_addMany.name) {p : Nat} {b0 : Int32} {b1 : Int32} {b2 : Int32} {b3 : Int32} {g : AH} {r : Unit} {g1 : AH} (E : x9_addMany p b0 b1 b2 b3 g = some (r, g1)) : WW M G 7 (RQ M G none g1 0 0) 0 0 g 0 [(0, .ref p), (1, .int b0), (2, .int b1), (3, .int b2), (4, .int b3)] [] := by
  unfold x9_addMany at E
  refine r_iload_n X 3 dX9_addMany_0 rfl rfl ?_
  refine r_istore X (L1 := [(5, .int b2), (0, .ref p), (1, .int b0), (2, .int b1), (3, .int b2), (4, .int b3)]) dX9_addMany_1 (by decide) rfl ?_
  refine r_iload X dX9_addMany_3 rfl ?_
  refine r_iconst X (v := 1) dX9_addMany_5 (by decide) ?_
  refine r_isub X dX9_addMany_6 ?_
  refine r_istore X (L1 := [(6, .int (b3 - 1)), (5, .int b2), (0, .ref p), (1, .int b0), (2, .int b1), (3, .int b2), (4, .int b3)]) dX9_addMany_7 (by decide) rfl ?_
  obtain ⟨t1, g2, e3, E⟩ := cb_some E
  refine r_pick (by rfl : lpick [(6, .int (b3 - 1)), (5, .int b2), (0, .ref p), (1, .int b0), (2, .int b1), (3, .int b2), (4, .int b3)] [2, 3, 4, 6, 1, 0] = _) (t_x9_addMany_l9_r X hl0 hr hnm _ _ _ _ _ e3 ?_)
  refine r_aload_n X 0 dX9_addMany_41 rfl rfl ?_
  obtain ⟨x4, e5, E⟩ := gb_some E
  refine r_getR X dX9_addMany_42 f_X9_7 e5 ?_
  refine r_iload_n X 1 dX9_addMany_45 rfl rfl ?_
  refine r_iload X dX9_addMany_46 rfl ?_
  obtain ⟨g6, e7, E⟩ := gb_some E
  refine r_iast X dX9_addMany_48 e7 ?_
  cases E
  exact r_vret X hr dX9_addMany_49 (by decide) (by decide)
theorem t_x9_addMany {l : Launch} {G : GG} {p : Nat} {b0 : Int32} {b1 : Int32} {b2 : Int32} {b3 : Int32} {g : AH} {r : Unit} {g1 : AH} (E : x9_addMany p b0 b1 b2 b3 g = some (r, g1)) : Ct l G yX9_addMany cX9_addMany 7 none ⟨1, 0, 0, 60⟩ [.ref p, .int b0, .int b1, .int b2, .int b3] g none g1 :=
  ct_of (L0 := [(0, .ref p), (1, .int b0), (2, .int b1), (3, .int b2), (4, .int b3)]) y_X9_addMany rfl (Nat.le_of_ble_eq_true rfl) fun M hl0 X hr hnm => t_x9_addMany_b X hl0 hr hnm E
set_option maxHeartbeats 4000000 in
set_option maxRecDepth 100000 in
theorem t_x9_set_b {l : Launch} {G : GG} {M : MC} (X : CX M G cX9_set 4 RX9 ⟨1, 0, 0, 60⟩) (hl0 : M.2.1 = l) (hr : (mM M).sig.returnType = none) (hnm : (mM M).name = yX9_set.name) {p : Nat} {b0 : Int32} {b1 : Int32} {b2 : Int32} {g : AH} {r : Unit} {g1 : AH} (E : x9_set p b0 b1 b2 g = some (r, g1)) : WW M G 4 (RQ M G none g1 0 0) 0 0 g 0 [(0, .ref p), (1, .int b0), (2, .int b1), (3, .int b2)] [] := by
  unfold x9_set at E
  refine r_aload_n X 0 dX9_set_0 rfl rfl ?_
  obtain ⟨x1, e2, E⟩ := gb_some E
  refine r_getR X dX9_set_1 f_X9_7 e2 ?_
  refine r_bipush X (v := 49) dX9_set_4 (by decide) ?_
  refine r_bipush X (v := 10) dX9_set_6 (by decide) ?_
  refine r_iload_n X 1 dX9_set_8 rfl rfl ?_
  refine r_imul X dX9_set_9 ?_
  refine r_iadd X dX9_set_10 ?_
  refine r_iload_n X 2 dX9_set_11 rfl rfl ?_
  refine r_iadd X dX9_set_12 ?_
  refine r_iload_n X 3 dX9_set_13 rfl rfl ?_
  obtain ⟨g3, e4, E⟩ := gb_some E
  refine r_iast X dX9_set_14 e4 ?_
  cases E
  exact r_vret X hr dX9_set_15 (by decide) (by decide)
theorem t_x9_set {l : Launch} {G : GG} {p : Nat} {b0 : Int32} {b1 : Int32} {b2 : Int32} {g : AH} {r : Unit} {g1 : AH} (E : x9_set p b0 b1 b2 g = some (r, g1)) : Ct l G yX9_set cX9_set 4 none ⟨1, 0, 0, 60⟩ [.ref p, .int b0, .int b1, .int b2] g none g1 :=
  ct_of (L0 := [(0, .ref p), (1, .int b0), (2, .int b1), (3, .int b2)]) y_X9_set rfl (Nat.le_of_ble_eq_true rfl) fun M hl0 X hr hnm => t_x9_set_b X hl0 hr hnm E
set_option maxHeartbeats 4000000 in
set_option maxRecDepth 100000 in
theorem t_x9_addHiker_b {l : Launch} {G : GG} {M : MC} (X : CX M G cX9_addHiker 5 RX9 ⟨2, 0, 0, 83⟩) (hl0 : M.2.1 = l) (hr : (mM M).sig.returnType = none) (hnm : (mM M).name = yX9_addHiker.name) {p : Nat} {b0 : Int32} {b1 : Int32} {b2 : Int32} {g : AH} {r : Unit} {g1 : AH} (E : x9_addHiker p b0 b1 b2 g = some (r, g1)) : WW M G 5 (RQ M G none g1 0 0) 0 0 g 0 [(0, .ref p), (1, .int b0), (2, .int b1), (3, .int b2)] [] := by
  unfold x9_addHiker at E
  refine r_aload_n X 0 dX9_addHiker_0 rfl rfl ?_
  obtain ⟨x1, e2, E⟩ := gb_some E
  refine r_getR X dX9_addHiker_1 f_X9_7 e2 ?_
  refine r_bipush X (v := 12) dX9_addHiker_4 (by decide) ?_
  obtain ⟨x3, e4, E⟩ := gb_some E
  refine r_iald X dX9_addHiker_6 e4 ?_
  refine r_istore X (L1 := [(4, .int x3), (0, .ref p), (1, .int b0), (2, .int b1), (3, .int b2)]) dX9_addHiker_7 (by decide) rfl ?_
  refine r_aload_n X 0 dX9_addHiker_9 rfl rfl ?_
  refine r_iload X dX9_addHiker_10 rfl ?_
  refine r_iconst X (v := 0) dX9_addHiker_12 (by decide) ?_
  refine r_iload_n X 1 dX9_addHiker_13 rfl rfl ?_
  obtain ⟨u8, e9, E⟩ := gb_some E
  obtain ⟨r5, g6, e7, E⟩ := cb_some E
  refine r_callV0 X hl0 (ci := 9) dX9_addHiker_14 y_X9_set m_X9_54 rfl rfl e9 (t_x9_set (l := l) (G := G) e7) rfl rfl (Nat.le_of_ble_eq_true rfl) (by decide) ?_
  refine r_aload_n X 0 dX9_addHiker_17 rfl rfl ?_
  refine r_iload X dX9_addHiker_18 rfl ?_
  refine r_iconst X (v := 1) dX9_addHiker_20 (by decide) ?_
  refine r_iload_n X 2 dX9_addHiker_21 rfl rfl ?_
  obtain ⟨u13, e14, E⟩ := gb_some E
  obtain ⟨r10, g11, e12, E⟩ := cb_some E
  refine r_callV0 X hl0 (ci := 9) dX9_addHiker_22 y_X9_set m_X9_54 rfl rfl e14 (t_x9_set (l := l) (G := G) e12) rfl rfl (Nat.le_of_ble_eq_true rfl) (by decide) ?_
  refine r_aload_n X 0 dX9_addHiker_25 rfl rfl ?_
  refine r_iload X dX9_addHiker_26 rfl ?_
  refine r_iconst X (v := 2) dX9_addHiker_28 (by decide) ?_
  refine r_iload_n X 3 dX9_addHiker_29 rfl rfl ?_
  obtain ⟨u18, e19, E⟩ := gb_some E
  obtain ⟨r15, g16, e17, E⟩ := cb_some E
  refine r_callV0 X hl0 (ci := 9) dX9_addHiker_30 y_X9_set m_X9_54 rfl rfl e19 (t_x9_set (l := l) (G := G) e17) rfl rfl (Nat.le_of_ble_eq_true rfl) (by decide) ?_
  refine r_aload_n X 0 dX9_addHiker_33 rfl rfl ?_
  refine r_iload X dX9_addHiker_34 rfl ?_
  refine r_iconst X (v := 4) dX9_addHiker_36 (by decide) ?_
  refine r_iconst X (v := (-1)) dX9_addHiker_37 (by decide) ?_
  obtain ⟨u23, e24, E⟩ := gb_some E
  obtain ⟨r20, g21, e22, E⟩ := cb_some E
  refine r_callV0 X hl0 (ci := 9) dX9_addHiker_38 y_X9_set m_X9_54 rfl rfl e24 (t_x9_set (l := l) (G := G) e22) rfl rfl (Nat.le_of_ble_eq_true rfl) (by decide) ?_
  refine r_aload_n X 0 dX9_addHiker_41 rfl rfl ?_
  refine r_iload X dX9_addHiker_42 rfl ?_
  refine r_iconst X (v := 5) dX9_addHiker_44 (by decide) ?_
  refine r_iconst X (v := (-1)) dX9_addHiker_45 (by decide) ?_
  obtain ⟨u28, e29, E⟩ := gb_some E
  obtain ⟨r25, g26, e27, E⟩ := cb_some E
  refine r_callV0 X hl0 (ci := 9) dX9_addHiker_46 y_X9_set m_X9_54 rfl rfl e29 (t_x9_set (l := l) (G := G) e27) rfl rfl (Nat.le_of_ble_eq_true rfl) (by decide) ?_
  refine r_aload_n X 0 dX9_addHiker_49 rfl rfl ?_
  obtain ⟨x30, e31, E⟩ := gb_some E
  refine r_getR X dX9_addHiker_50 f_X9_7 e31 ?_
  refine r_bipush X (v := 7) dX9_addHiker_53 (by decide) ?_
  refine r_dup2 X dX9_addHiker_55 rfl rfl ?_
  obtain ⟨x32, e33, E⟩ := gb_some E
  refine r_iald X dX9_addHiker_56 e33 ?_
  refine r_iload_n X 3 dX9_addHiker_57 rfl rfl ?_
  refine r_iadd X dX9_addHiker_58 ?_
  obtain ⟨g34, e35, E⟩ := gb_some E
  refine r_iast X dX9_addHiker_59 e35 ?_
  refine r_aload_n X 0 dX9_addHiker_60 rfl rfl ?_
  obtain ⟨x36, e37, E⟩ := gb_some E
  refine r_getR X dX9_addHiker_61 f_X9_7 e37 ?_
  refine r_bipush X (v := 12) dX9_addHiker_64 (by decide) ?_
  refine r_dup2 X dX9_addHiker_66 rfl rfl ?_
  obtain ⟨x38, e39, E⟩ := gb_some E
  refine r_iald X dX9_addHiker_67 e39 ?_
  refine r_iconst X (v := 1) dX9_addHiker_68 (by decide) ?_
  refine r_iadd X dX9_addHiker_69 ?_
  obtain ⟨g40, e41, E⟩ := gb_some E
  refine r_iast X dX9_addHiker_70 e41 ?_
  cases E
  exact r_vret X hr dX9_addHiker_71 (by decide) (by decide)
theorem t_x9_addHiker {l : Launch} {G : GG} {p : Nat} {b0 : Int32} {b1 : Int32} {b2 : Int32} {g : AH} {r : Unit} {g1 : AH} (E : x9_addHiker p b0 b1 b2 g = some (r, g1)) : Ct l G yX9_addHiker cX9_addHiker 5 none ⟨2, 0, 0, 83⟩ [.ref p, .int b0, .int b1, .int b2] g none g1 :=
  ct_of (L0 := [(0, .ref p), (1, .int b0), (2, .int b1), (3, .int b2)]) y_X9_addHiker rfl (Nat.le_of_ble_eq_true rfl) fun M hl0 X hr hnm => t_x9_addHiker_b X hl0 hr hnm E
set_option maxHeartbeats 4000000 in
set_option maxRecDepth 100000 in
theorem t_x9_init_b {l : Launch} {G : GG} {M : MC} (X : CX M G cX9_init 1 RX9 ⟨3, 10, 2407, 150⟩) (hl0 : M.2.1 = l) (hr : (mM M).sig.returnType = none) (hnm : (mM M).name = yX9_init.name) {p : Nat} {g : AH} {r : Unit} {g1 : AH} (E : x9_init p g = some (r, g1)) : WW M G 1 (RQ M G none g1 10 2407) 0 0 g 0 [(0, .ref p)] [] := by
  unfold x9_init at E
  refine r_aload_n X 0 dX9_init_0 rfl rfl ?_
  refine r_objInit X dX9_init_1 m_X9_1 (by decide) (Nat.le_of_ble_eq_true rfl) ?_
  refine r_aload_n X 0 dX9_init_4 rfl rfl ?_
  refine r_sipush X (v := 149) dX9_init_5 (by decide) ?_
  obtain ⟨x1, g2, e3, E⟩ := cb_some E
  refine r_newarr X 0 149 dX9_init_8 (by decide) rfl a_int (fun _ _ => rfl) (by decide) (by decide) (by decide) e3 ?_
  obtain ⟨g4, e5, E⟩ := gb_some E
  refine r_putF X dX9_init_10 f_X9_7 hnm (by intro C T N h; cases h; rfl) rfl rfl e5 ?_
  refine r_aload_n X 0 dX9_init_13 rfl rfl ?_
  refine r_sipush X (v := 149) dX9_init_14 (by decide) ?_
  obtain ⟨x6, g7, e8, E⟩ := cb_some E
  refine r_newarr X 0 149 dX9_init_17 (by decide) rfl a_int (fun _ _ => rfl) (by decide) (by decide) (by decide) e8 ?_
  obtain ⟨g9, e10, E⟩ := gb_some E
  refine r_putF X dX9_init_19 f_X9_13 hnm (by intro C T N h; cases h; rfl) rfl rfl e10 ?_
  refine r_aload_n X 0 dX9_init_22 rfl rfl ?_
  refine r_sipush X (v := 894) dX9_init_23 (by decide) ?_
  obtain ⟨x11, g12, e13, E⟩ := cb_some E
  refine r_newarr X 0 894 dX9_init_26 (by decide) rfl a_int (fun _ _ => rfl) (by decide) (by decide) (by decide) e13 ?_
  obtain ⟨g14, e15, E⟩ := gb_some E
  refine r_putF X dX9_init_28 f_X9_16 hnm (by intro C T N h; cases h; rfl) rfl rfl e15 ?_
  refine r_aload_n X 0 dX9_init_31 rfl rfl ?_
  refine r_sipush X (v := 298) dX9_init_32 (by decide) ?_
  obtain ⟨x16, g17, e18, E⟩ := cb_some E
  refine r_newarr X 0 298 dX9_init_35 (by decide) rfl a_int (fun _ _ => rfl) (by decide) (by decide) (by decide) e18 ?_
  obtain ⟨g19, e20, E⟩ := gb_some E
  refine r_putF X dX9_init_37 f_X9_19 hnm (by intro C T N h; cases h; rfl) rfl rfl e20 ?_
  refine r_aload_n X 0 dX9_init_40 rfl rfl ?_
  refine r_iconst X (v := 2) dX9_init_41 (by decide) ?_
  obtain ⟨x21, g22, e23, E⟩ := cb_some E
  refine r_newarr X 2 2 dX9_init_42 (by decide) rfl a_boolean (fun _ _ => rfl) (by decide) (by decide) (by decide) e23 ?_
  obtain ⟨g24, e25, E⟩ := gb_some E
  refine r_putF X dX9_init_44 f_X9_22 hnm (by intro C T N h; cases h; rfl) rfl rfl e25 ?_
  refine r_aload_n X 0 dX9_init_47 rfl rfl ?_
  refine r_bipush X (v := 10) dX9_init_48 (by decide) ?_
  obtain ⟨x26, g27, e28, E⟩ := cb_some E
  refine r_newarr X 0 10 dX9_init_50 (by decide) rfl a_int (fun _ _ => rfl) (by decide) (by decide) (by decide) e28 ?_
  obtain ⟨g29, e30, E⟩ := gb_some E
  refine r_putF X dX9_init_52 f_X9_26 hnm (by intro C T N h; cases h; rfl) rfl rfl e30 ?_
  refine r_aload_n X 0 dX9_init_55 rfl rfl ?_
  refine r_sipush X (v := 500) dX9_init_56 (by decide) ?_
  obtain ⟨x31, g32, e33, E⟩ := cb_some E
  refine r_newarr X 1 500 dX9_init_59 (by decide) rfl a_byte (fun _ _ => rfl) (by decide) (by decide) (by decide) e33 ?_
  obtain ⟨g34, e35, E⟩ := gb_some E
  refine r_putF X dX9_init_61 f_X9_29 hnm (by intro C T N h; cases h; rfl) rfl rfl e35 ?_
  refine r_aload_n X 0 dX9_init_64 rfl rfl ?_
  refine r_iconst X (v := (-1)) dX9_init_65 (by decide) ?_
  obtain ⟨g36, e37, E⟩ := gb_some E
  refine r_put X dX9_init_66 f_X9_33 rfl rfl e37 ?_
  refine r_aload_n X 0 dX9_init_69 rfl rfl ?_
  refine r_bipush X (v := 93) dX9_init_70 (by decide) ?_
  obtain ⟨x38, g39, e40, E⟩ := cb_some E
  refine r_newarr X 0 93 dX9_init_72 (by decide) rfl a_int (fun _ _ => rfl) (by decide) (by decide) (by decide) e40 ?_
  obtain ⟨g41, e42, E⟩ := gb_some E
  refine r_putF X dX9_init_74 f_X9_37 hnm (by intro C T N h; cases h; rfl) rfl rfl e42 ?_
  refine r_aload_n X 0 dX9_init_77 rfl rfl ?_
  refine r_bipush X (v := 12) dX9_init_78 (by decide) ?_
  obtain ⟨x43, g44, e45, E⟩ := cb_some E
  refine r_newarr X 2 12 dX9_init_80 (by decide) rfl a_boolean (fun _ _ => rfl) (by decide) (by decide) (by decide) e45 ?_
  obtain ⟨g46, e47, E⟩ := gb_some E
  refine r_putF X dX9_init_82 f_X9_40 hnm (by intro C T N h; cases h; rfl) rfl rfl e47 ?_
  refine r_aload_n X 0 dX9_init_85 rfl rfl ?_
  refine r_sipush X (v := 300) dX9_init_86 (by decide) ?_
  obtain ⟨x48, g49, e50, E⟩ := cb_some E
  refine r_newarr X 1 300 dX9_init_89 (by decide) rfl a_byte (fun _ _ => rfl) (by decide) (by decide) (by decide) e50 ?_
  obtain ⟨g51, e52, E⟩ := gb_some E
  refine r_putF X dX9_init_91 f_X9_43 hnm (by intro C T N h; cases h; rfl) rfl rfl e52 ?_
  refine r_aload_n X 0 dX9_init_94 rfl rfl ?_
  obtain ⟨x53, e54, E⟩ := gb_some E
  refine r_getR X dX9_init_95 f_X9_7 e54 ?_
  refine r_iconst X (v := 0) dX9_init_98 (by decide) ?_
  refine r_bipush X (v := 20) dX9_init_99 (by decide) ?_
  obtain ⟨g55, e56, E⟩ := gb_some E
  refine r_iast X dX9_init_101 e56 ?_
  refine r_aload_n X 0 dX9_init_102 rfl rfl ?_
  obtain ⟨x57, e58, E⟩ := gb_some E
  refine r_getR X dX9_init_103 f_X9_7 e58 ?_
  refine r_bipush X (v := 8) dX9_init_106 (by decide) ?_
  refine r_bipush X (v := 20) dX9_init_108 (by decide) ?_
  obtain ⟨g59, e60, E⟩ := gb_some E
  refine r_iast X dX9_init_110 e60 ?_
  refine r_aload_n X 0 dX9_init_111 rfl rfl ?_
  refine r_bipush X (v := 9) dX9_init_112 (by decide) ?_
  refine r_bipush X (v := 13) dX9_init_114 (by decide) ?_
  refine r_sipush X (v := 1310) dX9_init_116 (by decide) ?_
  refine r_iconst X (v := 5) dX9_init_119 (by decide) ?_
  obtain ⟨u64, e65, E⟩ := gb_some E
  obtain ⟨r61, g62, e63, E⟩ := cb_some E
  refine r_callV0 X hl0 (ci := 9) dX9_init_120 y_X9_addMany m_X9_46 rfl rfl e65 (t_x9_addMany (l := l) (G := G) e63) rfl rfl (Nat.le_of_ble_eq_true rfl) (by decide) ?_
  refine r_aload_n X 0 dX9_init_123 rfl rfl ?_
  refine r_bipush X (v := 10) dX9_init_124 (by decide) ?_
  refine r_bipush X (v := 25) dX9_init_126 (by decide) ?_
  refine r_sipush X (v := 352) dX9_init_128 (by decide) ?_
  refine r_iconst X (v := 3) dX9_init_131 (by decide) ?_
  obtain ⟨u69, e70, E⟩ := gb_some E
  obtain ⟨r66, g67, e68, E⟩ := cb_some E
  refine r_callV0 X hl0 (ci := 9) dX9_init_132 y_X9_addMany m_X9_46 rfl rfl e70 (t_x9_addMany (l := l) (G := G) e68) rfl rfl (Nat.le_of_ble_eq_true rfl) (by decide) ?_
  refine r_aload_n X 0 dX9_init_135 rfl rfl ?_
  refine r_bipush X (v := 11) dX9_init_136 (by decide) ?_
  refine r_bipush X (v := 37) dX9_init_138 (by decide) ?_
  refine r_sipush X (v := 6314) dX9_init_140 (by decide) ?_
  refine r_iconst X (v := 4) dX9_init_143 (by decide) ?_
  obtain ⟨u74, e75, E⟩ := gb_some E
  obtain ⟨r71, g72, e73, E⟩ := cb_some E
  refine r_callV0 X hl0 (ci := 9) dX9_init_144 y_X9_addMany m_X9_46 rfl rfl e75 (t_x9_addMany (l := l) (G := G) e73) rfl rfl (Nat.le_of_ble_eq_true rfl) (by decide) ?_
  refine r_aload_n X 0 dX9_init_147 rfl rfl ?_
  refine r_bipush X (v := 10) dX9_init_148 (by decide) ?_
  refine r_bipush X (v := 8) dX9_init_150 (by decide) ?_
  refine r_bipush X (v := 12) dX9_init_152 (by decide) ?_
  obtain ⟨u79, e80, E⟩ := gb_some E
  obtain ⟨r76, g77, e78, E⟩ := cb_some E
  refine r_callV0 X hl0 (ci := 9) dX9_init_154 y_X9_addHiker m_X9_50 rfl rfl e80 (t_x9_addHiker (l := l) (G := G) e78) rfl rfl (Nat.le_of_ble_eq_true rfl) (by decide) ?_
  refine r_aload_n X 0 dX9_init_157 rfl rfl ?_
  refine r_bipush X (v := 7) dX9_init_158 (by decide) ?_
  refine r_iconst X (v := 2) dX9_init_160 (by decide) ?_
  refine r_iconst X (v := 5) dX9_init_161 (by decide) ?_
  obtain ⟨u84, e85, E⟩ := gb_some E
  obtain ⟨r81, g82, e83, E⟩ := cb_some E
  refine r_callV0 X hl0 (ci := 9) dX9_init_162 y_X9_addHiker m_X9_50 rfl rfl e85 (t_x9_addHiker (l := l) (G := G) e83) rfl rfl (Nat.le_of_ble_eq_true rfl) (by decide) ?_
  refine r_aload_n X 0 dX9_init_165 rfl rfl ?_
  refine r_bipush X (v := 12) dX9_init_166 (by decide) ?_
  refine r_iconst X (v := 0) dX9_init_168 (by decide) ?_
  refine r_bipush X (v := 30) dX9_init_169 (by decide) ?_
  obtain ⟨u89, e90, E⟩ := gb_some E
  obtain ⟨r86, g87, e88, E⟩ := cb_some E
  refine r_callV0 X hl0 (ci := 9) dX9_init_171 y_X9_addHiker m_X9_50 rfl rfl e90 (t_x9_addHiker (l := l) (G := G) e88) rfl rfl (Nat.le_of_ble_eq_true rfl) (by decide) ?_
  refine r_aload_n X 0 dX9_init_174 rfl rfl ?_
  refine r_bipush X (v := 9) dX9_init_175 (by decide) ?_
  refine r_iconst X (v := 5) dX9_init_177 (by decide) ?_
  refine r_iconst X (v := 1) dX9_init_178 (by decide) ?_
  obtain ⟨u94, e95, E⟩ := gb_some E
  obtain ⟨r91, g92, e93, E⟩ := cb_some E
  refine r_callV0 X hl0 (ci := 9) dX9_init_179 y_X9_addHiker m_X9_50 rfl rfl e95 (t_x9_addHiker (l := l) (G := G) e93) rfl rfl (Nat.le_of_ble_eq_true rfl) (by decide) ?_
  cases E
  exact r_vret X hr dX9_init_182 (by decide) (by decide)
theorem t_x9_init {l : Launch} {G : GG} {p : Nat} {g : AH} {r : Unit} {g1 : AH} (E : x9_init p g = some (r, g1)) : Ct l G yX9_init cX9_init 1 none ⟨3, 10, 2407, 150⟩ [.ref p] g none g1 :=
  ct_of (L0 := [(0, .ref p)]) y_X9_init rfl (Nat.le_of_ble_eq_true rfl) fun M hl0 X hr hnm => t_x9_init_b X hl0 hr hnm E
set_option maxHeartbeats 4000000 in
set_option maxRecDepth 100000 in
theorem t_x9_thrown_b {l : Launch} {G : GG} {M : MC} (X : CX M G cX9_thrown 1 RX9 ⟨1, 0, 0, 60⟩) (hl0 : M.2.1 = l) (hr : (mM M).sig.returnType = (some .int)) (hnm : (mM M).name = yX9_thrown.name) {p : Nat} {g : AH} {r : Int32} {g1 : AH} (E : x9_thrown p g = some (r, g1)) : WW M G 1 (RQ M G (some (.int r)) g1 0 0) 0 0 g 0 [(0, .ref p)] [] := by
  unfold x9_thrown at E
  refine r_aload_n X 0 dX9_thrown_0 rfl rfl ?_
  obtain ⟨x1, e2, E⟩ := gb_some E
  refine r_getI X dX9_thrown_1 f_X9_57 e2 ?_
  cases E
  exact r_iret X hr dX9_thrown_4 (by decide) (by decide)
theorem t_x9_thrown {l : Launch} {G : GG} {p : Nat} {g : AH} {r : Int32} {g1 : AH} (E : x9_thrown p g = some (r, g1)) : Ct l G yX9_thrown cX9_thrown 1 (some .int) ⟨1, 0, 0, 60⟩ [.ref p] g (some (.int r)) g1 :=
  ct_of (L0 := [(0, .ref p)]) y_X9_thrown rfl (Nat.le_of_ble_eq_true rfl) fun M hl0 X hr hnm => t_x9_thrown_b X hl0 hr hnm E
set_option maxHeartbeats 4000000 in
set_option maxRecDepth 100000 in
theorem t_x9_fail_b {l : Launch} {G : GG} {M : MC} (X : CX M G cX9_fail 2 RX9 ⟨1, 0, 0, 60⟩) (hl0 : M.2.1 = l) (hr : (mM M).sig.returnType = (some .int)) (hnm : (mM M).name = yX9_fail.name) {p : Nat} {b0 : Int32} {g : AH} {r : Int32} {g1 : AH} (E : x9_fail p b0 g = some (r, g1)) : WW M G 2 (RQ M G (some (.int r)) g1 0 0) 0 0 g 0 [(0, .ref p), (1, .int b0)] [] := by
  unfold x9_fail at E
  refine r_aload_n X 0 dX9_fail_0 rfl rfl ?_
  refine r_iload_n X 1 dX9_fail_1 rfl rfl ?_
  obtain ⟨g1, e2, E⟩ := gb_some E
  refine r_put X dX9_fail_2 f_X9_57 rfl rfl e2 ?_
  refine r_iconst X (v := 0) dX9_fail_5 (by decide) ?_
  cases E
  exact r_iret X hr dX9_fail_6 (by decide) (by decide)
theorem t_x9_fail {l : Launch} {G : GG} {p : Nat} {b0 : Int32} {g : AH} {r : Int32} {g1 : AH} (E : x9_fail p b0 g = some (r, g1)) : Ct l G yX9_fail cX9_fail 2 (some .int) ⟨1, 0, 0, 60⟩ [.ref p, .int b0] g (some (.int r)) g1 :=
  ct_of (L0 := [(0, .ref p), (1, .int b0)]) y_X9_fail rfl (Nat.le_of_ble_eq_true rfl) fun M hl0 X hr hnm => t_x9_fail_b X hl0 hr hnm E
set_option maxHeartbeats 4000000 in
set_option maxRecDepth 100000 in
theorem t_x9_tell_b {l : Launch} {G : GG} {M : MC} (X : CX M G cX9_tell 2 RX9 ⟨1, 0, 0, 60⟩) (hl0 : M.2.1 = l) (hr : (mM M).sig.returnType = (some .int)) (hnm : (mM M).name = yX9_tell.name) {p : Nat} {b0 : Int32} {g : AH} {r : Int32} {g1 : AH} (E : x9_tell p b0 g = some (r, g1)) : WW M G 2 (RQ M G (some (.int r)) g1 0 0) 0 0 g 0 [(0, .ref p), (1, .int b0)] [] := by
  unfold x9_tell at E
  refine r_aload_n X 0 dX9_tell_0 rfl rfl ?_
  refine r_iconst X (v := 0) dX9_tell_1 (by decide) ?_
  obtain ⟨g1, e2, E⟩ := gb_some E
  refine r_put X dX9_tell_2 f_X9_57 rfl rfl e2 ?_
  refine r_iload_n X 1 dX9_tell_5 rfl rfl ?_
  cases E
  exact r_iret X hr dX9_tell_6 (by decide) (by decide)
theorem t_x9_tell {l : Launch} {G : GG} {p : Nat} {b0 : Int32} {g : AH} {r : Int32} {g1 : AH} (E : x9_tell p b0 g = some (r, g1)) : Ct l G yX9_tell cX9_tell 2 (some .int) ⟨1, 0, 0, 60⟩ [.ref p, .int b0] g (some (.int r)) g1 :=
  ct_of (L0 := [(0, .ref p), (1, .int b0)]) y_X9_tell rfl (Nat.le_of_ble_eq_true rfl) fun M hl0 X hr hnm => t_x9_tell_b X hl0 hr hnm E
set_option maxHeartbeats 4000000 in
set_option maxRecDepth 100000 in
theorem t_x9_isBetween_b {l : Launch} {G : GG} {M : MC} (X : CX M G cX9_isBetween 3 RX9 ⟨1, 0, 0, 60⟩) (hl0 : M.2.1 = l) (hr : (mM M).sig.returnType = (some .boolean)) (hnm : (mM M).name = yX9_isBetween.name) {b0 : Int32} {b1 : Int32} {b2 : Int32} {g : AH} {r : Int32} {g1 : AH} (E : x9_isBetween b0 b1 b2 g = some (r, g1)) : WW M G 3 (RQ M G (some (.int r)) g1 0 0) 0 0 g 0 [(0, .int b0), (1, .int b1), (2, .int b2)] [] := by
  unfold x9_isBetween at E
  refine r_iload_n X 0 dX9_isBetween_0 rfl rfl ?_
  refine r_iload_n X 1 dX9_isBetween_1 rfl rfl ?_
  refine r_icmp_lt X 14 dX9_isBetween_2 (by decide) (fun c1 => ?_) (fun c1 => ?_)
  · rw [if_pos c1] at E
    refine r_iconst X (v := 0) dX9_isBetween_14 (by decide) ?_
    cases E
    exact r_zret X hr (Or.inl rfl) dX9_isBetween_15 (by decide) (by decide)
  · rw [if_neg c1] at E
    refine r_iload_n X 0 dX9_isBetween_5 rfl rfl ?_
    refine r_iload_n X 2 dX9_isBetween_6 rfl rfl ?_
    refine r_icmp_gt X 14 dX9_isBetween_7 (by decide) (fun c2 => ?_) (fun c2 => ?_)
    · rw [if_pos c2] at E
      refine r_iconst X (v := 0) dX9_isBetween_14 (by decide) ?_
      cases E
      exact r_zret X hr (Or.inl rfl) dX9_isBetween_15 (by decide) (by decide)
    · rw [if_neg c2] at E
      refine r_iconst X (v := 1) dX9_isBetween_10 (by decide) ?_
      refine r_goto X 15 dX9_isBetween_11 (by decide) ?_
      cases E
      exact r_zret X hr (Or.inr rfl) dX9_isBetween_15 (by decide) (by decide)
theorem t_x9_isBetween {l : Launch} {G : GG} {b0 : Int32} {b1 : Int32} {b2 : Int32} {g : AH} {r : Int32} {g1 : AH} (E : x9_isBetween b0 b1 b2 g = some (r, g1)) : Ct l G yX9_isBetween cX9_isBetween 3 (some .boolean) ⟨1, 0, 0, 60⟩ [.int b0, .int b1, .int b2] g (some (.int r)) g1 :=
  ct_of (L0 := [(0, .int b0), (1, .int b1), (2, .int b2)]) y_X9_isBetween rfl (Nat.le_of_ble_eq_true rfl) fun M hl0 X hr hnm => t_x9_isBetween_b X hl0 hr hnm E
set_option maxHeartbeats 4000000 in
set_option maxRecDepth 100000 in
theorem t_x9_copy_l3 {l : Launch} {G : GG} {M : MC} (X : CX M G cX9_copy 5 RX9 ⟨1, 0, 0, 60⟩) (hl0 : M.2.1 = l) (hr : (mM M).sig.returnType = none) (hnm : (mM M).name = yX9_copy.name) {Q : State → Prop} {kc ks : Nat} {s9 : ((Int32) ⊕ (Unit))} {g1 : AH} {a0 : Nat} {a1 : Int32} {a2 : Nat} {a3 : Int32} {s0 : Int32} (hc : ∀ s1, s9 = .inl s1 → WW M G 5 Q kc ks g1 3 [(0, .ref a0), (1, .int a1), (2, .ref a2), (3, .int a3), (4, .int s1)] []) (hx : ∀ t, s9 = .inr t → WW M G 5 Q kc ks g1 29 [] []) {g : AH} (E : x9_copy_l3 a0 a1 a2 a3 s0 g = some (s9, g1)) : WW M G 5 Q kc ks g 3 [(0, .ref a0), (1, .int a1), (2, .ref a2), (3, .int a3), (4, .int s0)] [] := by
  unfold x9_copy_l3 at E
  refine r_iload X dX9_copy_3 rfl ?_
  refine r_sipush X (v := 149) dX9_copy_5 (by decide) ?_
  refine r_icmp_ge X 29 dX9_copy_8 (by decide) (fun c1 => ?_) (fun c1 => ?_)
  · rw [if_pos c1] at E
    cases E
    exact r_pick (by rfl : lpick [(0, .ref a0), (1, .int a1), (2, .ref a2), (3, .int a3), (4, .int s0)] [] = _) (hx _ rfl)
  · rw [if_neg c1] at E
    refine r_aload_n X 2 dX9_copy_11 rfl rfl ?_
    refine r_iload_n X 3 dX9_copy_12 rfl rfl ?_
    refine r_iload X dX9_copy_13 rfl ?_
    refine r_iadd X dX9_copy_15 ?_
    refine r_aload_n X 0 dX9_copy_16 rfl rfl ?_
    refine r_iload_n X 1 dX9_copy_17 rfl rfl ?_
    refine r_iload X dX9_copy_18 rfl ?_
    refine r_iadd X dX9_copy_20 ?_
    obtain ⟨x2, e3, E⟩ := gb_some E
    refine r_iald X dX9_copy_21 e3 ?_
    obtain ⟨g4, e5, E⟩ := gb_some E
    refine r_iast X dX9_copy_22 e5 ?_
    refine r_iinc X (v := (s0 + 1)) (L1 := [(4, .int (s0 + 1)), (0, .ref a0), (1, .int a1), (2, .ref a2), (3, .int a3)]) dX9_copy_23 rfl rfl (by decide) rfl ?_
    refine r_goto X 3 dX9_copy_26 (by decide) ?_
    cases E
    exact r_pick (by rfl : lpick [(4, .int (s0 + 1)), (0, .ref a0), (1, .int a1), (2, .ref a2), (3, .int a3)] [1, 2, 3, 4, 0] = _) (hc _ rfl)
set_option maxHeartbeats 4000000 in
theorem t_x9_copy_l3_r {l : Launch} {G : GG} {M : MC} (X : CX M G cX9_copy 5 RX9 ⟨1, 0, 0, 60⟩) (hl0 : M.2.1 = l) (hr : (mM M).sig.returnType = none) (hnm : (mM M).name = yX9_copy.name) {Q : State → Prop} {kc ks : Nat} {a0 : Nat} {a1 : Int32} {a2 : Nat} {a3 : Int32} : ∀ (n : Nat) (s0 : Int32) (g : AH) (t : (Unit)) (g1 : AH), loopX (x9_copy_l3 a0 a1 a2 a3) n s0 g = some (t, g1) → WW M G 5 Q kc ks g1 29 [] [] → WW M G 5 Q kc ks g 3 [(0, .ref a0), (1, .int a1), (2, .ref a2), (3, .int a3), (4, .int s0)] [] :=
  loop_cps (K := fun t g1 => WW M G 5 Q kc ks g1 29 [] []) (fun _ s0 g => WW M G 5 Q kc ks g 3 [(0, .ref a0), (1, .int a1), (2, .ref a2), (3, .int a3), (4, .int s0)] []) (fun n s0 g st g1 E hc hx => t_x9_copy_l3 X hl0 hr hnm hc hx E)
set_option maxHeartbeats 4000000 in
set_option maxRecDepth 100000 in
theorem t_x9_copy_b {l : Launch} {G : GG} {M : MC} (X : CX M G cX9_copy 5 RX9 ⟨1, 0, 0, 60⟩) (hl0 : M.2.1 = l) (hr : (mM M).sig.returnType = none) (hnm : (mM M).name = yX9_copy.name) {b0 : Nat} {b1 : Int32} {b2 : Nat} {b3 : Int32} {g : AH} {r : Unit} {g1 : AH} (E : x9_copy b0 b1 b2 b3 g = some (r, g1)) : WW M G 5 (RQ M G none g1 0 0) 0 0 g 0 [(0, .ref b0), (1, .int b1), (2, .ref b2), (3, .int b3)] [] := by
  unfold x9_copy at E
  refine r_iconst X (v := 0) dX9_copy_0 (by decide) ?_
  refine r_istore X (L1 := [(4, .int 0), (0, .ref b0), (1, .int b1), (2, .ref b2), (3, .int b3)]) dX9_copy_1 (by decide) rfl ?_
  obtain ⟨t1, g2, e3, E⟩ := cb_some E
  refine r_pick (by rfl : lpick [(4, .int 0), (0, .ref b0), (1, .int b1), (2, .ref b2), (3, .int b3)] [1, 2, 3, 4, 0] = _) (t_x9_copy_l3_r X hl0 hr hnm _ _ _ _ _ e3 ?_)
  cases E
  exact r_vret X hr dX9_copy_29 (by decide) (by decide)
theorem t_x9_copy {l : Launch} {G : GG} {b0 : Nat} {b1 : Int32} {b2 : Nat} {b3 : Int32} {g : AH} {r : Unit} {g1 : AH} (E : x9_copy b0 b1 b2 b3 g = some (r, g1)) : Ct l G yX9_copy cX9_copy 5 none ⟨1, 0, 0, 60⟩ [.ref b0, .int b1, .ref b2, .int b3] g none g1 :=
  ct_of (L0 := [(0, .ref b0), (1, .int b1), (2, .ref b2), (3, .int b3)]) y_X9_copy rfl (Nat.le_of_ble_eq_true rfl) fun M hl0 X hr hnm => t_x9_copy_b X hl0 hr hnm E
set_option maxHeartbeats 4000000 in
set_option maxRecDepth 100000 in
theorem t_x9_goAside_b {l : Launch} {G : GG} {M : MC} (X : CX M G cX9_goAside 1 RX9 ⟨2, 0, 0, 84⟩) (hl0 : M.2.1 = l) (hr : (mM M).sig.returnType = none) (hnm : (mM M).name = yX9_goAside.name) {p : Nat} {g : AH} {r : Unit} {g1 : AH} (E : x9_goAside p g = some (r, g1)) : WW M G 1 (RQ M G none g1 0 0) 0 0 g 0 [(0, .ref p)] [] := by
  unfold x9_goAside at E
  refine r_aload_n X 0 dX9_goAside_0 rfl rfl ?_
  obtain ⟨x1, e2, E⟩ := gb_some E
  refine r_getR X dX9_goAside_1 f_X9_7 e2 ?_
  refine r_iconst X (v := 0) dX9_goAside_4 (by decide) ?_
  refine r_aload_n X 0 dX9_goAside_5 rfl rfl ?_
  obtain ⟨x3, e4, E⟩ := gb_some E
  refine r_getR X dX9_goAside_6 f_X9_13 e4 ?_
  refine r_iconst X (v := 0) dX9_goAside_9 (by decide) ?_
  obtain ⟨r5, g6, e7, E⟩ := cb_some E
  refine r_callS0 X hl0 dX9_goAside_10 y_X9_copy m_X9_60 (t_x9_copy (l := l) (G := G) e7) rfl rfl (Nat.le_of_ble_eq_true rfl) (by decide) ?_
  cases E
  exact r_vret X hr dX9_goAside_13 (by decide) (by decide)
theorem t_x9_goAside {l : Launch} {G : GG} {p : Nat} {g : AH} {r : Unit} {g1 : AH} (E : x9_goAside p g = some (r, g1)) : Ct l G yX9_goAside cX9_goAside 1 none ⟨2, 0, 0, 84⟩ [.ref p] g none g1 :=
  ct_of (L0 := [(0, .ref p)]) y_X9_goAside rfl (Nat.le_of_ble_eq_true rfl) fun M hl0 X hr hnm => t_x9_goAside_b X hl0 hr hnm E
set_option maxHeartbeats 4000000 in
set_option maxRecDepth 100000 in
theorem t_x9_comeBack_b {l : Launch} {G : GG} {M : MC} (X : CX M G cX9_comeBack 2 RX9 ⟨2, 0, 0, 84⟩) (hl0 : M.2.1 = l) (hr : (mM M).sig.returnType = (some .int)) (hnm : (mM M).name = yX9_comeBack.name) {p : Nat} {b0 : Int32} {g : AH} {r : Int32} {g1 : AH} (E : x9_comeBack p b0 g = some (r, g1)) : WW M G 2 (RQ M G (some (.int r)) g1 0 0) 0 0 g 0 [(0, .ref p), (1, .int b0)] [] := by
  unfold x9_comeBack at E
  refine r_aload_n X 0 dX9_comeBack_0 rfl rfl ?_
  obtain ⟨x1, e2, E⟩ := gb_some E
  refine r_getR X dX9_comeBack_1 f_X9_13 e2 ?_
  refine r_iconst X (v := 0) dX9_comeBack_4 (by decide) ?_
  refine r_aload_n X 0 dX9_comeBack_5 rfl rfl ?_
  obtain ⟨x3, e4, E⟩ := gb_some E
  refine r_getR X dX9_comeBack_6 f_X9_7 e4 ?_
  refine r_iconst X (v := 0) dX9_comeBack_9 (by decide) ?_
  obtain ⟨r5, g6, e7, E⟩ := cb_some E
  refine r_callS0 X hl0 dX9_comeBack_10 y_X9_copy m_X9_60 (t_x9_copy (l := l) (G := G) e7) rfl rfl (Nat.le_of_ble_eq_true rfl) (by decide) ?_
  refine r_iload_n X 1 dX9_comeBack_13 rfl rfl ?_
  cases E
  exact r_iret X hr dX9_comeBack_14 (by decide) (by decide)
theorem t_x9_comeBack {l : Launch} {G : GG} {p : Nat} {b0 : Int32} {g : AH} {r : Int32} {g1 : AH} (E : x9_comeBack p b0 g = some (r, g1)) : Ct l G yX9_comeBack cX9_comeBack 2 (some .int) ⟨2, 0, 0, 84⟩ [.ref p, .int b0] g (some (.int r)) g1 :=
  ct_of (L0 := [(0, .ref p), (1, .int b0)]) y_X9_comeBack rfl (Nat.le_of_ble_eq_true rfl) fun M hl0 X hr hnm => t_x9_comeBack_b X hl0 hr hnm E
set_option maxHeartbeats 4000000 in
set_option maxRecDepth 100000 in
theorem t_x9_get_b {l : Launch} {G : GG} {M : MC} (X : CX M G cX9_get 3 RX9 ⟨1, 0, 0, 60⟩) (hl0 : M.2.1 = l) (hr : (mM M).sig.returnType = (some .int)) (hnm : (mM M).name = yX9_get.name) {p : Nat} {b0 : Int32} {b1 : Int32} {g : AH} {r : Int32} {g1 : AH} (E : x9_get p b0 b1 g = some (r, g1)) : WW M G 3 (RQ M G (some (.int r)) g1 0 0) 0 0 g 0 [(0, .ref p), (1, .int b0), (2, .int b1)] [] := by
  unfold x9_get at E
  refine r_aload_n X 0 dX9_get_0 rfl rfl ?_
  obtain ⟨x1, e2, E⟩ := gb_some E
  refine r_getR X dX9_get_1 f_X9_7 e2 ?_
  refine r_bipush X (v := 49) dX9_get_4 (by decide) ?_
  refine r_bipush X (v := 10) dX9_get_6 (by decide) ?_
  refine r_iload_n X 1 dX9_get_8 rfl rfl ?_
  refine r_imul X dX9_get_9 ?_
  refine r_iadd X dX9_get_10 ?_
  refine r_iload_n X 2 dX9_get_11 rfl rfl ?_
  refine r_iadd X dX9_get_12 ?_
  obtain ⟨x3, e4, E⟩ := gb_some E
  refine r_iald X dX9_get_13 e4 ?_
  cases E
  exact r_iret X hr dX9_get_14 (by decide) (by decide)
theorem t_x9_get {l : Launch} {G : GG} {p : Nat} {b0 : Int32} {b1 : Int32} {g : AH} {r : Int32} {g1 : AH} (E : x9_get p b0 b1 g = some (r, g1)) : Ct l G yX9_get cX9_get 3 (some .int) ⟨1, 0, 0, 60⟩ [.ref p, .int b0, .int b1] g (some (.int r)) g1 :=
  ct_of (L0 := [(0, .ref p), (1, .int b0), (2, .int b1)]) y_X9_get rfl (Nat.le_of_ble_eq_true rfl) fun M hl0 X hr hnm => t_x9_get_b X hl0 hr hnm E
set_option maxHeartbeats 4000000 in
set_option maxRecDepth 100000 in
theorem t_x9_increase_b {l : Launch} {G : GG} {M : MC} (X : CX M G cX9_increase 4 RX9 ⟨2, 0, 0, 83⟩) (hl0 : M.2.1 = l) (hr : (mM M).sig.returnType = none) (hnm : (mM M).name = yX9_increase.name) {p : Nat} {b0 : Int32} {b1 : Int32} {b2 : Int32} {g : AH} {r : Unit} {g1 : AH} (E : x9_increase p b0 b1 b2 g = some (r, g1)) : WW M G 4 (RQ M G none g1 0 0) 0 0 g 0 [(0, .ref p), (1, .int b0), (2, .int b1), (3, .int b2)] [] := by
  unfold x9_increase at E
  refine r_aload_n X 0 dX9_increase_0 rfl rfl ?_
  refine r_iload_n X 1 dX9_increase_1 rfl rfl ?_
  refine r_iload_n X 2 dX9_increase_2 rfl rfl ?_
  refine r_aload_n X 0 dX9_increase_3 rfl rfl ?_
  refine r_iload_n X 1 dX9_increase_4 rfl rfl ?_
  refine r_iload_n X 2 dX9_increase_5 rfl rfl ?_
  obtain ⟨u4, e5, E⟩ := gb_some E
  obtain ⟨r1, g2, e3, E⟩ := cb_some E
  refine r_callV0 X hl0 (ci := 9) dX9_increase_6 y_X9_get m_X9_64 rfl rfl e5 (t_x9_get (l := l) (G := G) e3) rfl rfl (Nat.le_of_ble_eq_true rfl) (by decide) ?_
  refine r_iload_n X 3 dX9_increase_9 rfl rfl ?_
  refine r_iadd X dX9_increase_10 ?_
  obtain ⟨u9, e10, E⟩ := gb_some E
  obtain ⟨r6, g7, e8, E⟩ := cb_some E
  refine r_callV0 X hl0 (ci := 9) dX9_increase_11 y_X9_set m_X9_54 rfl rfl e10 (t_x9_set (l := l) (G := G) e8) rfl rfl (Nat.le_of_ble_eq_true rfl) (by decide) ?_
  cases E
  exact r_vret X hr dX9_increase_14 (by decide) (by decide)
theorem t_x9_increase {l : Launch} {G : GG} {p : Nat} {b0 : Int32} {b1 : Int32} {b2 : Int32} {g : AH} {r : Unit} {g1 : AH} (E : x9_increase p b0 b1 b2 g = some (r, g1)) : Ct l G yX9_increase cX9_increase 4 none ⟨2, 0, 0, 83⟩ [.ref p, .int b0, .int b1, .int b2] g none g1 :=
  ct_of (L0 := [(0, .ref p), (1, .int b0), (2, .int b1), (3, .int b2)]) y_X9_increase rfl (Nat.le_of_ble_eq_true rfl) fun M hl0 X hr hnm => t_x9_increase_b X hl0 hr hnm E
set_option maxHeartbeats 4000000 in
set_option maxRecDepth 100000 in
theorem t_x9_isHiker_b {l : Launch} {G : GG} {M : MC} (X : CX M G cX9_isHiker 2 RX9 ⟨2, 0, 0, 82⟩) (hl0 : M.2.1 = l) (hr : (mM M).sig.returnType = (some .boolean)) (hnm : (mM M).name = yX9_isHiker.name) {p : Nat} {b0 : Int32} {g : AH} {r : Int32} {g1 : AH} (E : x9_isHiker p b0 g = some (r, g1)) : WW M G 2 (RQ M G (some (.int r)) g1 0 0) 0 0 g 0 [(0, .ref p), (1, .int b0)] [] := by
  unfold x9_isHiker at E
  refine r_iload_n X 1 dX9_isHiker_0 rfl rfl ?_
  refine r_iconst X (v := 0) dX9_isHiker_1 (by decide) ?_
  refine r_aload_n X 0 dX9_isHiker_2 rfl rfl ?_
  obtain ⟨x1, e2, E⟩ := gb_some E
  refine r_getR X dX9_isHiker_3 f_X9_7 e2 ?_
  refine r_bipush X (v := 12) dX9_isHiker_6 (by decide) ?_
  obtain ⟨x3, e4, E⟩ := gb_some E
  refine r_iald X dX9_isHiker_8 e4 ?_
  refine r_iconst X (v := 1) dX9_isHiker_9 (by decide) ?_
  refine r_isub X dX9_isHiker_10 ?_
  obtain ⟨r5, g6, e7, E⟩ := cb_some E
  refine r_callS0 X hl0 dX9_isHiker_11 y_X9_isBetween m_X9_68 (t_x9_isBetween (l := l) (G := G) e7) rfl rfl (Nat.le_of_ble_eq_true rfl) (by decide) ?_
  by_cases c8 : bz r5
  · rw [if_pos c8] at E
    cases E
    exact r_zret X hr c8 dX9_isHiker_14 (by decide) (by decide)
  · rw [if_neg c8] at E; cases E
theorem t_x9_isHiker {l : Launch} {G : GG} {p : Nat} {b0 : Int32} {g : AH} {r : Int32} {g1 : AH} (E : x9_isHiker p b0 g = some (r, g1)) : Ct l G yX9_isHiker cX9_isHiker 2 (some .boolean) ⟨2, 0, 0, 82⟩ [.ref p, .int b0] g (some (.int r)) g1 :=
  ct_of (L0 := [(0, .ref p), (1, .int b0)]) y_X9_isHiker rfl (Nat.le_of_ble_eq_true rfl) fun M hl0 X hr hnm => t_x9_isHiker_b X hl0 hr hnm E
set_option maxHeartbeats 4000000 in
set_option maxRecDepth 100000 in
theorem t_x9_isBunk_b {l : Launch} {G : GG} {M : MC} (X : CX M G cX9_isBunk 2 RX9 ⟨2, 0, 0, 82⟩) (hl0 : M.2.1 = l) (hr : (mM M).sig.returnType = (some .boolean)) (hnm : (mM M).name = yX9_isBunk.name) {p : Nat} {b0 : Int32} {g : AH} {r : Int32} {g1 : AH} (E : x9_isBunk p b0 g = some (r, g1)) : WW M G 2 (RQ M G (some (.int r)) g1 0 0) 0 0 g 0 [(0, .ref p), (1, .int b0)] [] := by
  unfold x9_isBunk at E
  refine r_iload_n X 1 dX9_isBunk_0 rfl rfl ?_
  refine r_iconst X (v := 0) dX9_isBunk_1 (by decide) ?_
  refine r_aload_n X 0 dX9_isBunk_2 rfl rfl ?_
  obtain ⟨x1, e2, E⟩ := gb_some E
  refine r_getR X dX9_isBunk_3 f_X9_7 e2 ?_
  refine r_bipush X (v := 9) dX9_isBunk_6 (by decide) ?_
  obtain ⟨x3, e4, E⟩ := gb_some E
  refine r_iald X dX9_isBunk_8 e4 ?_
  refine r_iconst X (v := 1) dX9_isBunk_9 (by decide) ?_
  refine r_isub X dX9_isBunk_10 ?_
  obtain ⟨r5, g6, e7, E⟩ := cb_some E
  refine r_callS0 X hl0 dX9_isBunk_11 y_X9_isBetween m_X9_68 (t_x9_isBetween (l := l) (G := G) e7) rfl rfl (Nat.le_of_ble_eq_true rfl) (by decide) ?_
  by_cases c8 : bz r5
  · rw [if_pos c8] at E
    cases E
    exact r_zret X hr c8 dX9_isBunk_14 (by decide) (by decide)
  · rw [if_neg c8] at E; cases E
theorem t_x9_isBunk {l : Launch} {G : GG} {p : Nat} {b0 : Int32} {g : AH} {r : Int32} {g1 : AH} (E : x9_isBunk p b0 g = some (r, g1)) : Ct l G yX9_isBunk cX9_isBunk 2 (some .boolean) ⟨2, 0, 0, 82⟩ [.ref p, .int b0] g (some (.int r)) g1 :=
  ct_of (L0 := [(0, .ref p), (1, .int b0)]) y_X9_isBunk rfl (Nat.le_of_ble_eq_true rfl) fun M hl0 X hr hnm => t_x9_isBunk_b X hl0 hr hnm E
set_option maxHeartbeats 4000000 in
set_option maxRecDepth 100000 in
theorem t_x9_isBlanket_b {l : Launch} {G : GG} {M : MC} (X : CX M G cX9_isBlanket 2 RX9 ⟨2, 0, 0, 82⟩) (hl0 : M.2.1 = l) (hr : (mM M).sig.returnType = (some .boolean)) (hnm : (mM M).name = yX9_isBlanket.name) {p : Nat} {b0 : Int32} {g : AH} {r : Int32} {g1 : AH} (E : x9_isBlanket p b0 g = some (r, g1)) : WW M G 2 (RQ M G (some (.int r)) g1 0 0) 0 0 g 0 [(0, .ref p), (1, .int b0)] [] := by
  unfold x9_isBlanket at E
  refine r_iload_n X 1 dX9_isBlanket_0 rfl rfl ?_
  refine r_iconst X (v := 0) dX9_isBlanket_1 (by decide) ?_
  refine r_aload_n X 0 dX9_isBlanket_2 rfl rfl ?_
  obtain ⟨x1, e2, E⟩ := gb_some E
  refine r_getR X dX9_isBlanket_3 f_X9_7 e2 ?_
  refine r_bipush X (v := 10) dX9_isBlanket_6 (by decide) ?_
  obtain ⟨x3, e4, E⟩ := gb_some E
  refine r_iald X dX9_isBlanket_8 e4 ?_
  refine r_iconst X (v := 1) dX9_isBlanket_9 (by decide) ?_
  refine r_isub X dX9_isBlanket_10 ?_
  obtain ⟨r5, g6, e7, E⟩ := cb_some E
  refine r_callS0 X hl0 dX9_isBlanket_11 y_X9_isBetween m_X9_68 (t_x9_isBetween (l := l) (G := G) e7) rfl rfl (Nat.le_of_ble_eq_true rfl) (by decide) ?_
  by_cases c8 : bz r5
  · rw [if_pos c8] at E
    cases E
    exact r_zret X hr c8 dX9_isBlanket_14 (by decide) (by decide)
  · rw [if_neg c8] at E; cases E
theorem t_x9_isBlanket {l : Launch} {G : GG} {p : Nat} {b0 : Int32} {g : AH} {r : Int32} {g1 : AH} (E : x9_isBlanket p b0 g = some (r, g1)) : Ct l G yX9_isBlanket cX9_isBlanket 2 (some .boolean) ⟨2, 0, 0, 82⟩ [.ref p, .int b0] g (some (.int r)) g1 :=
  ct_of (L0 := [(0, .ref p), (1, .int b0)]) y_X9_isBlanket rfl (Nat.le_of_ble_eq_true rfl) fun M hl0 X hr hnm => t_x9_isBlanket_b X hl0 hr hnm E
set_option maxHeartbeats 4000000 in
set_option maxRecDepth 100000 in
theorem t_x9_hikerWith_l2 {l : Launch} {G : GG} {M : MC} (X : CX M G cX9_hikerWith 4 RX9 ⟨2, 0, 0, 82⟩) (hl0 : M.2.1 = l) (hr : (mM M).sig.returnType = (some .int)) (hnm : (mM M).name = yX9_hikerWith.name) {Q : State → Prop} {kc ks : Nat} {s9 : ((Int32) ⊕ ((Unit) ⊕ Int32))} {g1 : AH} {a0 : Nat} {a1 : Int32} {a2 : Int32} {s0 : Int32} (hc : ∀ s1, s9 = .inl s1 → WW M G 4 Q kc ks g1 2 [(0, .ref a0), (1, .int a1), (2, .int a2), (3, .int s1)] []) (hx : ∀ t, s9 = .inr t → Sum.elim (fun t1 => WW M G 4 Q kc ks g1 31 [] []) (fun t2 => ∃ mc ms : Nat, kc ≤ mc ∧ ks ≤ ms ∧ Q = RQ M G (some (.int t2)) g1 mc ms) t) {g : AH} (E : x9_hikerWith_l2 a0 a1 a2 s0 g = some (s9, g1)) : WW M G 4 Q kc ks g 2 [(0, .ref a0), (1, .int a1), (2, .int a2), (3, .int s0)] [] := by
  unfold x9_hikerWith_l2 at E
  refine r_iload_n X 3 dX9_hikerWith_2 rfl rfl ?_
  refine r_aload_n X 0 dX9_hikerWith_3 rfl rfl ?_
  obtain ⟨x1, e2, E⟩ := gb_some E
  refine r_getR X dX9_hikerWith_4 f_X9_7 e2 ?_
  refine r_bipush X (v := 12) dX9_hikerWith_7 (by decide) ?_
  obtain ⟨x3, e4, E⟩ := gb_some E
  refine r_iald X dX9_hikerWith_9 e4 ?_
  refine r_icmp_ge X 31 dX9_hikerWith_10 (by decide) (fun c5 => ?_) (fun c5 => ?_)
  · rw [if_pos c5] at E
    cases E
    exact r_pick (by rfl : lpick [(0, .ref a0), (1, .int a1), (2, .int a2), (3, .int s0)] [] = _) (hx _ rfl)
  · rw [if_neg c5] at E
    refine r_aload_n X 0 dX9_hikerWith_13 rfl rfl ?_
    refine r_iload_n X 3 dX9_hikerWith_14 rfl rfl ?_
    refine r_iload_n X 1 dX9_hikerWith_15 rfl rfl ?_
    obtain ⟨u9, e10, E⟩ := gb_some E
    obtain ⟨r6, g7, e8, E⟩ := cb_some E
    refine r_callV0 X hl0 (ci := 9) dX9_hikerWith_16 y_X9_get m_X9_64 rfl rfl e10 (t_x9_get (l := l) (G := G) e8) rfl rfl (Nat.le_of_ble_eq_true rfl) (by decide) ?_
    refine r_iload_n X 2 dX9_hikerWith_19 rfl rfl ?_
    refine r_icmp_ne X 25 dX9_hikerWith_20 (by decide) (fun c11 => ?_) (fun c11 => ?_)
    · rw [if_neg c11] at E
      refine r_iinc X (v := (s0 + 1)) (L1 := [(3, .int (s0 + 1)), (0, .ref a0), (1, .int a1), (2, .int a2)]) dX9_hikerWith_25 rfl rfl (by decide) rfl ?_
      refine r_goto X 2 dX9_hikerWith_28 (by decide) ?_
      cases E
      exact r_pick (by rfl : lpick [(3, .int (s0 + 1)), (0, .ref a0), (1, .int a1), (2, .int a2)] [1, 2, 3, 0] = _) (hc _ rfl)
    · rw [if_pos c11] at E
      refine r_iload_n X 3 dX9_hikerWith_23 rfl rfl ?_
      cases E
      obtain ⟨mc9, ms9, h91, h92, rfl⟩ := hx _ rfl
      exact r_iret X hr dX9_hikerWith_24 h91 h92
set_option maxHeartbeats 4000000 in
theorem t_x9_hikerWith_l2_r {l : Launch} {G : GG} {M : MC} (X : CX M G cX9_hikerWith 4 RX9 ⟨2, 0, 0, 82⟩) (hl0 : M.2.1 = l) (hr : (mM M).sig.returnType = (some .int)) (hnm : (mM M).name = yX9_hikerWith.name) {Q : State → Prop} {kc ks : Nat} {a0 : Nat} {a1 : Int32} {a2 : Int32} : ∀ (n : Nat) (s0 : Int32) (g : AH) (t : ((Unit) ⊕ Int32)) (g1 : AH), loopX (x9_hikerWith_l2 a0 a1 a2) n s0 g = some (t, g1) → Sum.elim (fun t1 => WW M G 4 Q kc ks g1 31 [] []) (fun t2 => ∃ mc ms : Nat, kc ≤ mc ∧ ks ≤ ms ∧ Q = RQ M G (some (.int t2)) g1 mc ms) t → WW M G 4 Q kc ks g 2 [(0, .ref a0), (1, .int a1), (2, .int a2), (3, .int s0)] [] :=
  loop_cps (K := fun t g1 => Sum.elim (fun t1 => WW M G 4 Q kc ks g1 31 [] []) (fun t2 => ∃ mc ms : Nat, kc ≤ mc ∧ ks ≤ ms ∧ Q = RQ M G (some (.int t2)) g1 mc ms) t) (fun _ s0 g => WW M G 4 Q kc ks g 2 [(0, .ref a0), (1, .int a1), (2, .int a2), (3, .int s0)] []) (fun n s0 g st g1 E hc hx => t_x9_hikerWith_l2 X hl0 hr hnm hc hx E)
set_option maxHeartbeats 4000000 in
set_option maxRecDepth 100000 in
theorem t_x9_hikerWith_b {l : Launch} {G : GG} {M : MC} (X : CX M G cX9_hikerWith 4 RX9 ⟨2, 0, 0, 82⟩) (hl0 : M.2.1 = l) (hr : (mM M).sig.returnType = (some .int)) (hnm : (mM M).name = yX9_hikerWith.name) {p : Nat} {b0 : Int32} {b1 : Int32} {g : AH} {r : Int32} {g1 : AH} (E : x9_hikerWith p b0 b1 g = some (r, g1)) : WW M G 4 (RQ M G (some (.int r)) g1 0 0) 0 0 g 0 [(0, .ref p), (1, .int b0), (2, .int b1)] [] := by
  unfold x9_hikerWith at E
  refine r_iconst X (v := 0) dX9_hikerWith_0 (by decide) ?_
  refine r_istore_n X 3 (L1 := [(3, .int 0), (0, .ref p), (1, .int b0), (2, .int b1)]) dX9_hikerWith_1 rfl (by decide) rfl ?_
  obtain ⟨t1, g2, e3, E⟩ := cb_some E
  rcases t1 with t4 | t5
  · rw [Sum.elim_inl] at E
    refine r_pick (by rfl : lpick [(3, .int 0), (0, .ref p), (1, .int b0), (2, .int b1)] [1, 2, 3, 0] = _) (t_x9_hikerWith_l2_r X hl0 hr hnm _ _ _ _ _ e3 ?_)
    refine r_iconst X (v := (-1)) dX9_hikerWith_31 (by decide) ?_
    cases E
    exact r_iret X hr dX9_hikerWith_32 (by decide) (by decide)
  · rw [Sum.elim_inr] at E
    cases E
    exact r_pick (by rfl : lpick [(3, .int 0), (0, .ref p), (1, .int b0), (2, .int b1)] [1, 2, 3, 0] = _) (t_x9_hikerWith_l2_r X hl0 hr hnm _ _ _ _ _ e3 ⟨_, _, by decide, by decide, rfl⟩)
theorem t_x9_hikerWith {l : Launch} {G : GG} {p : Nat} {b0 : Int32} {b1 : Int32} {g : AH} {r : Int32} {g1 : AH} (E : x9_hikerWith p b0 b1 g = some (r, g1)) : Ct l G yX9_hikerWith cX9_hikerWith 4 (some .int) ⟨2, 0, 0, 82⟩ [.ref p, .int b0, .int b1] g (some (.int r)) g1 :=
  ct_of (L0 := [(0, .ref p), (1, .int b0), (2, .int b1)]) y_X9_hikerWith rfl (Nat.le_of_ble_eq_true rfl) fun M hl0 X hr hnm => t_x9_hikerWith_b X hl0 hr hnm E
set_option maxHeartbeats 4000000 in
set_option maxRecDepth 100000 in
theorem t_x9_inBunk_b {l : Launch} {G : GG} {M : MC} (X : CX M G cX9_inBunk 2 RX9 ⟨3, 0, 0, 105⟩) (hl0 : M.2.1 = l) (hr : (mM M).sig.returnType = (some .int)) (hnm : (mM M).name = yX9_inBunk.name) {p : Nat} {b0 : Int32} {g : AH} {r : Int32} {g1 : AH} (E : x9_inBunk p b0 g = some (r, g1)) : WW M G 2 (RQ M G (some (.int r)) g1 0 0) 0 0 g 0 [(0, .ref p), (1, .int b0)] [] := by
  unfold x9_inBunk at E
  refine r_aload_n X 0 dX9_inBunk_0 rfl rfl ?_
  refine r_iload_n X 1 dX9_inBunk_1 rfl rfl ?_
  obtain ⟨u4, e5, E⟩ := gb_some E
  obtain ⟨r1, g2, e3, E⟩ := cb_some E
  refine r_callV0 X hl0 (ci := 9) dX9_inBunk_2 y_X9_isBunk m_X9_72 rfl rfl e5 (t_x9_isBunk (l := l) (G := G) e3) rfl rfl (Nat.le_of_ble_eq_true rfl) (by decide) ?_
  refine r_if_eq X 17 dX9_inBunk_5 (by decide) (fun c6 => ?_) (fun c6 => ?_)
  · rw [if_pos c6] at E
    refine r_iconst X (v := (-1)) dX9_inBunk_17 (by decide) ?_
    cases E
    exact r_iret X hr dX9_inBunk_18 (by decide) (by decide)
  · rw [if_neg c6] at E
    refine r_aload_n X 0 dX9_inBunk_8 rfl rfl ?_
    refine r_iconst X (v := 4) dX9_inBunk_9 (by decide) ?_
    refine r_iload_n X 1 dX9_inBunk_10 rfl rfl ?_
    obtain ⟨u10, e11, E⟩ := gb_some E
    obtain ⟨r7, g8, e9, E⟩ := cb_some E
    refine r_callV0 X hl0 (ci := 9) dX9_inBunk_11 y_X9_hikerWith m_X9_76 rfl rfl e11 (t_x9_hikerWith (l := l) (G := G) e9) rfl rfl (Nat.le_of_ble_eq_true rfl) (by decide) ?_
    refine r_goto X 18 dX9_inBunk_14 (by decide) ?_
    cases E
    exact r_iret X hr dX9_inBunk_18 (by decide) (by decide)
theorem t_x9_inBunk {l : Launch} {G : GG} {p : Nat} {b0 : Int32} {g : AH} {r : Int32} {g1 : AH} (E : x9_inBunk p b0 g = some (r, g1)) : Ct l G yX9_inBunk cX9_inBunk 2 (some .int) ⟨3, 0, 0, 105⟩ [.ref p, .int b0] g (some (.int r)) g1 :=
  ct_of (L0 := [(0, .ref p), (1, .int b0)]) y_X9_inBunk rfl (Nat.le_of_ble_eq_true rfl) fun M hl0 X hr hnm => t_x9_inBunk_b X hl0 hr hnm E
set_option maxHeartbeats 4000000 in
set_option maxRecDepth 100000 in
theorem t_x9_inside_b {l : Launch} {G : GG} {M : MC} (X : CX M G cX9_inside 1 RX9 ⟨1, 0, 0, 60⟩) (hl0 : M.2.1 = l) (hr : (mM M).sig.returnType = (some .int)) (hnm : (mM M).name = yX9_inside.name) {p : Nat} {g : AH} {r : Int32} {g1 : AH} (E : x9_inside p g = some (r, g1)) : WW M G 1 (RQ M G (some (.int r)) g1 0 0) 0 0 g 0 [(0, .ref p)] [] := by
  unfold x9_inside at E
  refine r_aload_n X 0 dX9_inside_0 rfl rfl ?_
  obtain ⟨x1, e2, E⟩ := gb_some E
  refine r_getR X dX9_inside_1 f_X9_7 e2 ?_
  refine r_bipush X (v := 37) dX9_inside_4 (by decide) ?_
  refine r_aload_n X 0 dX9_inside_6 rfl rfl ?_
  obtain ⟨x3, e4, E⟩ := gb_some E
  refine r_getR X dX9_inside_7 f_X9_7 e4 ?_
  refine r_iconst X (v := 3) dX9_inside_10 (by decide) ?_
  obtain ⟨x5, e6, E⟩ := gb_some E
  refine r_iald X dX9_inside_11 e6 ?_
  refine r_aload_n X 0 dX9_inside_12 rfl rfl ?_
  obtain ⟨x7, e8, E⟩ := gb_some E
  refine r_getR X dX9_inside_13 f_X9_7 e8 ?_
  refine r_bipush X (v := 11) dX9_inside_16 (by decide) ?_
  obtain ⟨x9, e10, E⟩ := gb_some E
  refine r_iald X dX9_inside_18 e10 ?_
  by_cases c11 : x9 = 0
  · rw [if_pos c11] at E; cases E
  rw [if_neg c11] at E
  refine r_irem X dX9_inside_19 c11 ?_
  refine r_iadd X dX9_inside_20 ?_
  obtain ⟨x12, e13, E⟩ := gb_some E
  refine r_iald X dX9_inside_21 e13 ?_
  refine r_aload_n X 0 dX9_inside_22 rfl rfl ?_
  obtain ⟨x14, e15, E⟩ := gb_some E
  refine r_getR X dX9_inside_23 f_X9_7 e15 ?_
  refine r_iconst X (v := 2) dX9_inside_26 (by decide) ?_
  obtain ⟨x16, e17, E⟩ := gb_some E
  refine r_iald X dX9_inside_27 e17 ?_
  refine r_iadd X dX9_inside_28 ?_
  cases E
  exact r_iret X hr dX9_inside_29 (by decide) (by decide)
theorem t_x9_inside {l : Launch} {G : GG} {p : Nat} {g : AH} {r : Int32} {g1 : AH} (E : x9_inside p g = some (r, g1)) : Ct l G yX9_inside cX9_inside 1 (some .int) ⟨1, 0, 0, 60⟩ [.ref p] g (some (.int r)) g1 :=
  ct_of (L0 := [(0, .ref p)]) y_X9_inside rfl (Nat.le_of_ble_eq_true rfl) fun M hl0 X hr hnm => t_x9_inside_b X hl0 hr hnm E
set_option maxHeartbeats 4000000 in
set_option maxRecDepth 100000 in
theorem t_x9_thicknessFor_b {l : Launch} {G : GG} {M : MC} (X : CX M G cX9_thicknessFor 3 RX9 ⟨2, 0, 0, 82⟩) (hl0 : M.2.1 = l) (hr : (mM M).sig.returnType = (some .int)) (hnm : (mM M).name = yX9_thicknessFor.name) {p : Nat} {b0 : Int32} {g : AH} {r : Int32} {g1 : AH} (E : x9_thicknessFor p b0 g = some (r, g1)) : WW M G 3 (RQ M G (some (.int r)) g1 0 0) 0 0 g 0 [(0, .ref p), (1, .int b0)] [] := by
  unfold x9_thicknessFor at E
  refine r_aload_n X 0 dX9_thicknessFor_0 rfl rfl ?_
  refine r_iload_n X 1 dX9_thicknessFor_1 rfl rfl ?_
  refine r_iconst X (v := 5) dX9_thicknessFor_2 (by decide) ?_
  obtain ⟨u4, e5, E⟩ := gb_some E
  obtain ⟨r1, g2, e3, E⟩ := cb_some E
  refine r_callV0 X hl0 (ci := 9) dX9_thicknessFor_3 y_X9_get m_X9_64 rfl rfl e5 (t_x9_get (l := l) (G := G) e3) rfl rfl (Nat.le_of_ble_eq_true rfl) (by decide) ?_
  refine r_istore_n X 2 (L1 := [(2, .int r1), (0, .ref p), (1, .int b0)]) dX9_thicknessFor_6 rfl (by decide) rfl ?_
  refine r_iload_n X 2 dX9_thicknessFor_7 rfl rfl ?_
  refine r_iconst X (v := (-1)) dX9_thicknessFor_8 (by decide) ?_
  refine r_icmp_ne X 16 dX9_thicknessFor_9 (by decide) (fun c6 => ?_) (fun c6 => ?_)
  · rw [if_neg c6] at E
    refine r_aload_n X 0 dX9_thicknessFor_16 rfl rfl ?_
    obtain ⟨x7, e8, E⟩ := gb_some E
    refine r_getR X dX9_thicknessFor_17 f_X9_7 e8 ?_
    refine r_bipush X (v := 25) dX9_thicknessFor_20 (by decide) ?_
    refine r_iload_n X 2 dX9_thicknessFor_22 rfl rfl ?_
    refine r_iadd X dX9_thicknessFor_23 ?_
    obtain ⟨x9, e10, E⟩ := gb_some E
    refine r_iald X dX9_thicknessFor_24 e10 ?_
    cases E
    exact r_iret X hr dX9_thicknessFor_25 (by decide) (by decide)
  · rw [if_pos c6] at E
    refine r_iconst X (v := 0) dX9_thicknessFor_12 (by decide) ?_
    refine r_goto X 25 dX9_thicknessFor_13 (by decide) ?_
    cases E
    exact r_iret X hr dX9_thicknessFor_25 (by decide) (by decide)
theorem t_x9_thicknessFor {l : Launch} {G : GG} {p : Nat} {b0 : Int32} {g : AH} {r : Int32} {g1 : AH} (E : x9_thicknessFor p b0 g = some (r, g1)) : Ct l G yX9_thicknessFor cX9_thicknessFor 3 (some .int) ⟨2, 0, 0, 82⟩ [.ref p, .int b0] g (some (.int r)) g1 :=
  ct_of (L0 := [(0, .ref p), (1, .int b0)]) y_X9_thicknessFor rfl (Nat.le_of_ble_eq_true rfl) fun M hl0 X hr hnm => t_x9_thicknessFor_b X hl0 hr hnm E
set_option maxHeartbeats 4000000 in
set_option maxRecDepth 100000 in
theorem t_x9_warmthBare_j49 {l : Launch} {G : GG} {M : MC} (X : CX M G cX9_warmthBare 4 RX9 ⟨4, 0, 0, 126⟩) (hl0 : M.2.1 = l) (hr : (mM M).sig.returnType = (some .int)) (hnm : (mM M).name = yX9_warmthBare.name) {a0 : Nat} {a2 : Int32} {s0 : Int32} {s1 : Int32} {g : AH} {r : Int32} {g1 : AH} (E : x9_warmthBare_j49 a0 a2 s0 s1 g = some (r, g1)) : WW M G 4 (RQ M G (some (.int r)) g1 0 0) 0 0 g 49 [(0, .ref a0), (2, .int a2)] [.int s0, .int s1] := by
  unfold x9_warmthBare_j49 at E
  refine r_iadd X dX9_warmthBare_49 ?_
  refine r_istore_n X 3 (L1 := [(3, .int (s1 + s0)), (0, .ref a0), (2, .int a2)]) dX9_warmthBare_50 rfl (by decide) rfl ?_
  refine r_aload_n X 0 dX9_warmthBare_51 rfl rfl ?_
  obtain ⟨u4, e5, E⟩ := gb_some E
  obtain ⟨r1, g2, e3, E⟩ := cb_some E
  refine r_callV0 X hl0 (ci := 9) dX9_warmthBare_52 y_X9_inside m_X9_79 rfl rfl e5 (t_x9_inside (l := l) (G := G) e3) rfl rfl (Nat.le_of_ble_eq_true rfl) (by decide) ?_
  refine r_aload_n X 0 dX9_warmthBare_55 rfl rfl ?_
  obtain ⟨x6, e7, E⟩ := gb_some E
  refine r_getR X dX9_warmthBare_56 f_X9_7 e7 ?_
  refine r_bipush X (v := 13) dX9_warmthBare_59 (by decide) ?_
  refine r_iload_n X 2 dX9_warmthBare_61 rfl rfl ?_
  refine r_iadd X dX9_warmthBare_62 ?_
  obtain ⟨x8, e9, E⟩ := gb_some E
  refine r_iald X dX9_warmthBare_63 e9 ?_
  refine r_iadd X dX9_warmthBare_64 ?_
  refine r_iload_n X 3 dX9_warmthBare_65 rfl rfl ?_
  refine r_iadd X dX9_warmthBare_66 ?_
  cases E
  exact r_iret X hr dX9_warmthBare_67 (by decide) (by decide)
set_option maxHeartbeats 4000000 in
set_option maxRecDepth 100000 in
theorem t_x9_warmthBare_j33 {l : Launch} {G : GG} {M : MC} (X : CX M G cX9_warmthBare 4 RX9 ⟨4, 0, 0, 126⟩) (hl0 : M.2.1 = l) (hr : (mM M).sig.returnType = (some .int)) (hnm : (mM M).name = yX9_warmthBare.name) {a0 : Nat} {a2 : Int32} {s0 : Int32} {g : AH} {r : Int32} {g1 : AH} (E : x9_warmthBare_j33 a0 a2 s0 g = some (r, g1)) : WW M G 4 (RQ M G (some (.int r)) g1 0 0) 0 0 g 33 [(0, .ref a0), (2, .int a2)] [.int s0] := by
  unfold x9_warmthBare_j33 at E
  refine r_aload_n X 0 dX9_warmthBare_33 rfl rfl ?_
  refine r_iload_n X 2 dX9_warmthBare_34 rfl rfl ?_
  refine r_iconst X (v := 1) dX9_warmthBare_35 (by decide) ?_
  refine r_iadd X dX9_warmthBare_36 ?_
  obtain ⟨u4, e5, E⟩ := gb_some E
  obtain ⟨r1, g2, e3, E⟩ := cb_some E
  refine r_callV0 X hl0 (ci := 9) dX9_warmthBare_37 y_X9_inBunk m_X9_83 rfl rfl e5 (t_x9_inBunk (l := l) (G := G) e3) rfl rfl (Nat.le_of_ble_eq_true rfl) (by decide) ?_
  refine r_iconst X (v := (-1)) dX9_warmthBare_40 (by decide) ?_
  refine r_icmp_ne X 48 dX9_warmthBare_41 (by decide) (fun c6 => ?_) (fun c6 => ?_)
  · rw [if_neg c6] at E
    refine r_iconst X (v := 1) dX9_warmthBare_48 (by decide) ?_
    exact r_pick (by rfl : lpick [(0, .ref a0), (2, .int a2)] [0, 1] = _) (t_x9_warmthBare_j49 X hl0 hr hnm E)
  · rw [if_pos c6] at E
    refine r_iconst X (v := 0) dX9_warmthBare_44 (by decide) ?_
    refine r_goto X 49 dX9_warmthBare_45 (by decide) ?_
    exact r_pick (by rfl : lpick [(0, .ref a0), (2, .int a2)] [0, 1] = _) (t_x9_warmthBare_j49 X hl0 hr hnm E)
set_option maxHeartbeats 4000000 in
set_option maxRecDepth 100000 in
theorem t_x9_warmthBare_b {l : Launch} {G : GG} {M : MC} (X : CX M G cX9_warmthBare 4 RX9 ⟨4, 0, 0, 126⟩) (hl0 : M.2.1 = l) (hr : (mM M).sig.returnType = (some .int)) (hnm : (mM M).name = yX9_warmthBare.name) {p : Nat} {b0 : Int32} {g : AH} {r : Int32} {g1 : AH} (E : x9_warmthBare p b0 g = some (r, g1)) : WW M G 4 (RQ M G (some (.int r)) g1 0 0) 0 0 g 0 [(0, .ref p), (1, .int b0)] [] := by
  unfold x9_warmthBare at E
  refine r_aload_n X 0 dX9_warmthBare_0 rfl rfl ?_
  refine r_iload_n X 1 dX9_warmthBare_1 rfl rfl ?_
  refine r_iconst X (v := 4) dX9_warmthBare_2 (by decide) ?_
  obtain ⟨u4, e5, E⟩ := gb_some E
  obtain ⟨r1, g2, e3, E⟩ := cb_some E
  refine r_callV0 X hl0 (ci := 9) dX9_warmthBare_3 y_X9_get m_X9_64 rfl rfl e5 (t_x9_get (l := l) (G := G) e3) rfl rfl (Nat.le_of_ble_eq_true rfl) (by decide) ?_
  refine r_istore_n X 2 (L1 := [(2, .int r1), (0, .ref p), (1, .int b0)]) dX9_warmthBare_6 rfl (by decide) rfl ?_
  refine r_iload_n X 2 dX9_warmthBare_7 rfl rfl ?_
  refine r_iconst X (v := (-1)) dX9_warmthBare_8 (by decide) ?_
  refine r_icmp_ne X 17 dX9_warmthBare_9 (by decide) (fun c6 => ?_) (fun c6 => ?_)
  · rw [if_neg c6] at E
    refine r_aload_n X 0 dX9_warmthBare_17 rfl rfl ?_
    refine r_iload_n X 2 dX9_warmthBare_18 rfl rfl ?_
    refine r_iconst X (v := 1) dX9_warmthBare_19 (by decide) ?_
    refine r_isub X dX9_warmthBare_20 ?_
    obtain ⟨u10, e11, E⟩ := gb_some E
    obtain ⟨r7, g8, e9, E⟩ := cb_some E
    refine r_callV0 X hl0 (ci := 9) dX9_warmthBare_21 y_X9_inBunk m_X9_83 rfl rfl e11 (t_x9_inBunk (l := l) (G := G) e9) rfl rfl (Nat.le_of_ble_eq_true rfl) (by decide) ?_
    refine r_iconst X (v := (-1)) dX9_warmthBare_24 (by decide) ?_
    refine r_icmp_ne X 32 dX9_warmthBare_25 (by decide) (fun c12 => ?_) (fun c12 => ?_)
    · rw [if_neg c12] at E
      refine r_iconst X (v := 1) dX9_warmthBare_32 (by decide) ?_
      exact r_pick (by rfl : lpick [(2, .int r1), (0, .ref p), (1, .int b0)] [1, 0] = _) (t_x9_warmthBare_j33 X hl0 hr hnm E)
    · rw [if_pos c12] at E
      refine r_iconst X (v := 0) dX9_warmthBare_28 (by decide) ?_
      refine r_goto X 33 dX9_warmthBare_29 (by decide) ?_
      exact r_pick (by rfl : lpick [(2, .int r1), (0, .ref p), (1, .int b0)] [1, 0] = _) (t_x9_warmthBare_j33 X hl0 hr hnm E)
  · rw [if_pos c6] at E
    refine r_aload_n X 0 dX9_warmthBare_12 rfl rfl ?_
    obtain ⟨u16, e17, E⟩ := gb_some E
    obtain ⟨r13, g14, e15, E⟩ := cb_some E
    refine r_callV0 X hl0 (ci := 9) dX9_warmthBare_13 y_X9_inside m_X9_79 rfl rfl e17 (t_x9_inside (l := l) (G := G) e15) rfl rfl (Nat.le_of_ble_eq_true rfl) (by decide) ?_
    cases E
    exact r_iret X hr dX9_warmthBare_16 (by decide) (by decide)
theorem t_x9_warmthBare {l : Launch} {G : GG} {p : Nat} {b0 : Int32} {g : AH} {r : Int32} {g1 : AH} (E : x9_warmthBare p b0 g = some (r, g1)) : Ct l G yX9_warmthBare cX9_warmthBare 4 (some .int) ⟨4, 0, 0, 126⟩ [.ref p, .int b0] g (some (.int r)) g1 :=
  ct_of (L0 := [(0, .ref p), (1, .int b0)]) y_X9_warmthBare rfl (Nat.le_of_ble_eq_true rfl) fun M hl0 X hr hnm => t_x9_warmthBare_b X hl0 hr hnm E
set_option maxHeartbeats 4000000 in
set_option maxRecDepth 100000 in
theorem t_x9_warmthNow_b {l : Launch} {G : GG} {M : MC} (X : CX M G cX9_warmthNow 2 RX9 ⟨5, 0, 0, 149⟩) (hl0 : M.2.1 = l) (hr : (mM M).sig.returnType = (some .int)) (hnm : (mM M).name = yX9_warmthNow.name) {p : Nat} {b0 : Int32} {g : AH} {r : Int32} {g1 : AH} (E : x9_warmthNow p b0 g = some (r, g1)) : WW M G 2 (RQ M G (some (.int r)) g1 0 0) 0 0 g 0 [(0, .ref p), (1, .int b0)] [] := by
  unfold x9_warmthNow at E
  refine r_aload_n X 0 dX9_warmthNow_0 rfl rfl ?_
  refine r_iload_n X 1 dX9_warmthNow_1 rfl rfl ?_
  obtain ⟨u4, e5, E⟩ := gb_some E
  obtain ⟨r1, g2, e3, E⟩ := cb_some E
  refine r_callV0 X hl0 (ci := 9) dX9_warmthNow_2 y_X9_warmthBare m_X9_87 rfl rfl e5 (t_x9_warmthBare (l := l) (G := G) e3) rfl rfl (Nat.le_of_ble_eq_true rfl) (by decide) ?_
  refine r_aload_n X 0 dX9_warmthNow_5 rfl rfl ?_
  refine r_iload_n X 1 dX9_warmthNow_6 rfl rfl ?_
  obtain ⟨u9, e10, E⟩ := gb_some E
  obtain ⟨r6, g7, e8, E⟩ := cb_some E
  refine r_callV0 X hl0 (ci := 9) dX9_warmthNow_7 y_X9_thicknessFor m_X9_90 rfl rfl e10 (t_x9_thicknessFor (l := l) (G := G) e8) rfl rfl (Nat.le_of_ble_eq_true rfl) (by decide) ?_
  refine r_iadd X dX9_warmthNow_10 ?_
  cases E
  exact r_iret X hr dX9_warmthNow_11 (by decide) (by decide)
theorem t_x9_warmthNow {l : Launch} {G : GG} {p : Nat} {b0 : Int32} {g : AH} {r : Int32} {g1 : AH} (E : x9_warmthNow p b0 g = some (r, g1)) : Ct l G yX9_warmthNow cX9_warmthNow 2 (some .int) ⟨5, 0, 0, 149⟩ [.ref p, .int b0] g (some (.int r)) g1 :=
  ct_of (L0 := [(0, .ref p), (1, .int b0)]) y_X9_warmthNow rfl (Nat.le_of_ble_eq_true rfl) fun M hl0 X hr hnm => t_x9_warmthNow_b X hl0 hr hnm E
set_option maxHeartbeats 4000000 in
set_option maxRecDepth 100000 in
theorem t_x9_isCold_b {l : Launch} {G : GG} {M : MC} (X : CX M G cX9_isCold 2 RX9 ⟨6, 0, 0, 170⟩) (hl0 : M.2.1 = l) (hr : (mM M).sig.returnType = (some .boolean)) (hnm : (mM M).name = yX9_isCold.name) {p : Nat} {b0 : Int32} {g : AH} {r : Int32} {g1 : AH} (E : x9_isCold p b0 g = some (r, g1)) : WW M G 2 (RQ M G (some (.int r)) g1 0 0) 0 0 g 0 [(0, .ref p), (1, .int b0)] [] := by
  unfold x9_isCold at E
  refine r_aload_n X 0 dX9_isCold_0 rfl rfl ?_
  refine r_iload_n X 1 dX9_isCold_1 rfl rfl ?_
  obtain ⟨u4, e5, E⟩ := gb_some E
  obtain ⟨r1, g2, e3, E⟩ := cb_some E
  refine r_callV0 X hl0 (ci := 9) dX9_isCold_2 y_X9_warmthNow m_X9_93 rfl rfl e5 (t_x9_warmthNow (l := l) (G := G) e3) rfl rfl (Nat.le_of_ble_eq_true rfl) (by decide) ?_
  refine r_aload_n X 0 dX9_isCold_5 rfl rfl ?_
  refine r_iload_n X 1 dX9_isCold_6 rfl rfl ?_
  refine r_iconst X (v := 0) dX9_isCold_7 (by decide) ?_
  obtain ⟨u9, e10, E⟩ := gb_some E
  obtain ⟨r6, g7, e8, E⟩ := cb_some E
  refine r_callV0 X hl0 (ci := 9) dX9_isCold_8 y_X9_get m_X9_64 rfl rfl e10 (t_x9_get (l := l) (G := G) e8) rfl rfl (Nat.le_of_ble_eq_true rfl) (by decide) ?_
  refine r_icmp_ge X 18 dX9_isCold_11 (by decide) (fun c11 => ?_) (fun c11 => ?_)
  · rw [if_pos c11] at E
    refine r_iconst X (v := 0) dX9_isCold_18 (by decide) ?_
    cases E
    exact r_zret X hr (Or.inl rfl) dX9_isCold_19 (by decide) (by decide)
  · rw [if_neg c11] at E
    refine r_iconst X (v := 1) dX9_isCold_14 (by decide) ?_
    refine r_goto X 19 dX9_isCold_15 (by decide) ?_
    cases E
    exact r_zret X hr (Or.inr rfl) dX9_isCold_19 (by decide) (by decide)
theorem t_x9_isCold {l : Launch} {G : GG} {p : Nat} {b0 : Int32} {g : AH} {r : Int32} {g1 : AH} (E : x9_isCold p b0 g = some (r, g1)) : Ct l G yX9_isCold cX9_isCold 2 (some .boolean) ⟨6, 0, 0, 170⟩ [.ref p, .int b0] g (some (.int r)) g1 :=
  ct_of (L0 := [(0, .ref p), (1, .int b0)]) y_X9_isCold rfl (Nat.le_of_ble_eq_true rfl) fun M hl0 X hr hnm => t_x9_isCold_b X hl0 hr hnm E
set_option maxHeartbeats 4000000 in
set_option maxRecDepth 100000 in
theorem t_x9_snoreIn_j19 {l : Launch} {G : GG} {M : MC} (X : CX M G cX9_snoreIn 3 RX9 ⟨7, 0, 0, 191⟩) (hl0 : M.2.1 = l) (hr : (mM M).sig.returnType = (some .int)) (hnm : (mM M).name = yX9_snoreIn.name)  {g : AH} {r : Int32} {g1 : AH} (E : x9_snoreIn_j19  g = some (r, g1)) : WW M G 3 (RQ M G (some (.int r)) g1 0 0) 0 0 g 19 [] [] := by
  unfold x9_snoreIn_j19 at E
  refine r_iconst X (v := 0) dX9_snoreIn_19 (by decide) ?_
  refine r_goto X 29 dX9_snoreIn_20 (by decide) ?_
  cases E
  exact r_iret X hr dX9_snoreIn_29 (by decide) (by decide)
set_option maxHeartbeats 4000000 in
set_option maxRecDepth 100000 in
theorem t_x9_snoreIn_b {l : Launch} {G : GG} {M : MC} (X : CX M G cX9_snoreIn 3 RX9 ⟨7, 0, 0, 191⟩) (hl0 : M.2.1 = l) (hr : (mM M).sig.returnType = (some .int)) (hnm : (mM M).name = yX9_snoreIn.name) {p : Nat} {b0 : Int32} {g : AH} {r : Int32} {g1 : AH} (E : x9_snoreIn p b0 g = some (r, g1)) : WW M G 3 (RQ M G (some (.int r)) g1 0 0) 0 0 g 0 [(0, .ref p), (1, .int b0)] [] := by
  unfold x9_snoreIn at E
  refine r_aload_n X 0 dX9_snoreIn_0 rfl rfl ?_
  refine r_iload_n X 1 dX9_snoreIn_1 rfl rfl ?_
  obtain ⟨u4, e5, E⟩ := gb_some E
  obtain ⟨r1, g2, e3, E⟩ := cb_some E
  refine r_callV0 X hl0 (ci := 9) dX9_snoreIn_2 y_X9_inBunk m_X9_83 rfl rfl e5 (t_x9_inBunk (l := l) (G := G) e3) rfl rfl (Nat.le_of_ble_eq_true rfl) (by decide) ?_
  refine r_istore_n X 2 (L1 := [(2, .int r1), (0, .ref p), (1, .int b0)]) dX9_snoreIn_5 rfl (by decide) rfl ?_
  refine r_iload_n X 2 dX9_snoreIn_6 rfl rfl ?_
  refine r_iconst X (v := (-1)) dX9_snoreIn_7 (by decide) ?_
  refine r_icmp_eq X 19 dX9_snoreIn_8 (by decide) (fun c6 => ?_) (fun c6 => ?_)
  · rw [if_pos c6] at E
    exact r_pick (by rfl : lpick [(2, .int r1), (0, .ref p), (1, .int b0)] [] = _) (t_x9_snoreIn_j19 X hl0 hr hnm E)
  · rw [if_neg c6] at E
    refine r_aload_n X 0 dX9_snoreIn_11 rfl rfl ?_
    refine r_iload_n X 2 dX9_snoreIn_12 rfl rfl ?_
    obtain ⟨u10, e11, E⟩ := gb_some E
    obtain ⟨r7, g8, e9, E⟩ := cb_some E
    refine r_callV0 X hl0 (ci := 9) dX9_snoreIn_13 y_X9_isCold m_X9_96 rfl rfl e11 (t_x9_isCold (l := l) (G := G) e9) rfl rfl (Nat.le_of_ble_eq_true rfl) (by decide) ?_
    refine r_if_eq X 23 dX9_snoreIn_16 (by decide) (fun c12 => ?_) (fun c12 => ?_)
    · rw [if_pos c12] at E
      refine r_aload_n X 0 dX9_snoreIn_23 rfl rfl ?_
      refine r_iload_n X 2 dX9_snoreIn_24 rfl rfl ?_
      refine r_iconst X (v := 1) dX9_snoreIn_25 (by decide) ?_
      obtain ⟨u16, e17, E⟩ := gb_some E
      obtain ⟨r13, g14, e15, E⟩ := cb_some E
      refine r_callV0 X hl0 (ci := 9) dX9_snoreIn_26 y_X9_get m_X9_64 rfl rfl e17 (t_x9_get (l := l) (G := G) e15) rfl rfl (Nat.le_of_ble_eq_true rfl) (by decide) ?_
      cases E
      exact r_iret X hr dX9_snoreIn_29 (by decide) (by decide)
    · rw [if_neg c12] at E
      exact r_pick (by rfl : lpick [(2, .int r1), (0, .ref p), (1, .int b0)] [] = _) (t_x9_snoreIn_j19 X hl0 hr hnm E)
theorem t_x9_snoreIn {l : Launch} {G : GG} {p : Nat} {b0 : Int32} {g : AH} {r : Int32} {g1 : AH} (E : x9_snoreIn p b0 g = some (r, g1)) : Ct l G yX9_snoreIn cX9_snoreIn 3 (some .int) ⟨7, 0, 0, 191⟩ [.ref p, .int b0] g (some (.int r)) g1 :=
  ct_of (L0 := [(0, .ref p), (1, .int b0)]) y_X9_snoreIn rfl (Nat.le_of_ble_eq_true rfl) fun M hl0 X hr hnm => t_x9_snoreIn_b X hl0 hr hnm E
set_option maxHeartbeats 4000000 in
set_option maxRecDepth 100000 in
theorem t_x9_noise_b {l : Launch} {G : GG} {M : MC} (X : CX M G cX9_noise 2 RX9 ⟨8, 0, 0, 213⟩) (hl0 : M.2.1 = l) (hr : (mM M).sig.returnType = (some .int)) (hnm : (mM M).name = yX9_noise.name) {p : Nat} {b0 : Int32} {g : AH} {r : Int32} {g1 : AH} (E : x9_noise p b0 g = some (r, g1)) : WW M G 2 (RQ M G (some (.int r)) g1 0 0) 0 0 g 0 [(0, .ref p), (1, .int b0)] [] := by
  unfold x9_noise at E
  refine r_aload_n X 0 dX9_noise_0 rfl rfl ?_
  refine r_iload_n X 1 dX9_noise_1 rfl rfl ?_
  refine r_iconst X (v := 1) dX9_noise_2 (by decide) ?_
  refine r_isub X dX9_noise_3 ?_
  obtain ⟨u4, e5, E⟩ := gb_some E
  obtain ⟨r1, g2, e3, E⟩ := cb_some E
  refine r_callV0 X hl0 (ci := 9) dX9_noise_4 y_X9_snoreIn m_X9_99 rfl rfl e5 (t_x9_snoreIn (l := l) (G := G) e3) rfl rfl (Nat.le_of_ble_eq_true rfl) (by decide) ?_
  refine r_aload_n X 0 dX9_noise_7 rfl rfl ?_
  refine r_iload_n X 1 dX9_noise_8 rfl rfl ?_
  refine r_iconst X (v := 1) dX9_noise_9 (by decide) ?_
  refine r_iadd X dX9_noise_10 ?_
  obtain ⟨u9, e10, E⟩ := gb_some E
  obtain ⟨r6, g7, e8, E⟩ := cb_some E
  refine r_callV0 X hl0 (ci := 9) dX9_noise_11 y_X9_snoreIn m_X9_99 rfl rfl e10 (t_x9_snoreIn (l := l) (G := G) e8) rfl rfl (Nat.le_of_ble_eq_true rfl) (by decide) ?_
  refine r_iadd X dX9_noise_14 ?_
  refine r_aload_n X 0 dX9_noise_15 rfl rfl ?_
  refine r_iload_n X 1 dX9_noise_16 rfl rfl ?_
  refine r_iconst X (v := 2) dX9_noise_17 (by decide) ?_
  refine r_isub X dX9_noise_18 ?_
  obtain ⟨u14, e15, E⟩ := gb_some E
  obtain ⟨r11, g12, e13, E⟩ := cb_some E
  refine r_callV0 X hl0 (ci := 9) dX9_noise_19 y_X9_snoreIn m_X9_99 rfl rfl e15 (t_x9_snoreIn (l := l) (G := G) e13) rfl rfl (Nat.le_of_ble_eq_true rfl) (by decide) ?_
  refine r_aload_n X 0 dX9_noise_22 rfl rfl ?_
  refine r_iload_n X 1 dX9_noise_23 rfl rfl ?_
  refine r_iconst X (v := 2) dX9_noise_24 (by decide) ?_
  refine r_iadd X dX9_noise_25 ?_
  obtain ⟨u19, e20, E⟩ := gb_some E
  obtain ⟨r16, g17, e18, E⟩ := cb_some E
  refine r_callV0 X hl0 (ci := 9) dX9_noise_26 y_X9_snoreIn m_X9_99 rfl rfl e20 (t_x9_snoreIn (l := l) (G := G) e18) rfl rfl (Nat.le_of_ble_eq_true rfl) (by decide) ?_
  refine r_iadd X dX9_noise_29 ?_
  refine r_iconst X (v := 2) dX9_noise_30 (by decide) ?_
  refine r_idiv X dX9_noise_31 (by decide) ?_
  refine r_iadd X dX9_noise_32 ?_
  cases E
  exact r_iret X hr dX9_noise_33 (by decide) (by decide)
theorem t_x9_noise {l : Launch} {G : GG} {p : Nat} {b0 : Int32} {g : AH} {r : Int32} {g1 : AH} (E : x9_noise p b0 g = some (r, g1)) : Ct l G yX9_noise cX9_noise 2 (some .int) ⟨8, 0, 0, 213⟩ [.ref p, .int b0] g (some (.int r)) g1 :=
  ct_of (L0 := [(0, .ref p), (1, .int b0)]) y_X9_noise rfl (Nat.le_of_ble_eq_true rfl) fun M hl0 X hr hnm => t_x9_noise_b X hl0 hr hnm E
set_option maxHeartbeats 4000000 in
set_option maxRecDepth 100000 in
theorem t_x9_deed_b {l : Launch} {G : GG} {M : MC} (X : CX M G cX9_deed 2 RX9 ⟨9, 0, 0, 234⟩) (hl0 : M.2.1 = l) (hr : (mM M).sig.returnType = (some .int)) (hnm : (mM M).name = yX9_deed.name) {p : Nat} {b0 : Int32} {g : AH} {r : Int32} {g1 : AH} (E : x9_deed p b0 g = some (r, g1)) : WW M G 2 (RQ M G (some (.int r)) g1 0 0) 0 0 g 0 [(0, .ref p), (1, .int b0)] [] := by
  unfold x9_deed at E
  refine r_aload_n X 0 dX9_deed_0 rfl rfl ?_
  refine r_iload_n X 1 dX9_deed_1 rfl rfl ?_
  obtain ⟨u4, e5, E⟩ := gb_some E
  obtain ⟨r1, g2, e3, E⟩ := cb_some E
  refine r_callV0 X hl0 (ci := 9) dX9_deed_2 y_X9_isCold m_X9_96 rfl rfl e5 (t_x9_isCold (l := l) (G := G) e3) rfl rfl (Nat.le_of_ble_eq_true rfl) (by decide) ?_
  refine r_if_eq X 10 dX9_deed_5 (by decide) (fun c6 => ?_) (fun c6 => ?_)
  · rw [if_pos c6] at E
    refine r_aload_n X 0 dX9_deed_10 rfl rfl ?_
    refine r_iload_n X 1 dX9_deed_11 rfl rfl ?_
    refine r_iconst X (v := 4) dX9_deed_12 (by decide) ?_
    obtain ⟨u10, e11, E⟩ := gb_some E
    obtain ⟨r7, g8, e9, E⟩ := cb_some E
    refine r_callV0 X hl0 (ci := 9) dX9_deed_13 y_X9_get m_X9_64 rfl rfl e11 (t_x9_get (l := l) (G := G) e9) rfl rfl (Nat.le_of_ble_eq_true rfl) (by decide) ?_
    refine r_iconst X (v := (-1)) dX9_deed_16 (by decide) ?_
    refine r_icmp_ne X 22 dX9_deed_17 (by decide) (fun c12 => ?_) (fun c12 => ?_)
    · rw [if_neg c12] at E
      refine r_aload_n X 0 dX9_deed_22 rfl rfl ?_
      refine r_aload_n X 0 dX9_deed_23 rfl rfl ?_
      refine r_iload_n X 1 dX9_deed_24 rfl rfl ?_
      refine r_iconst X (v := 4) dX9_deed_25 (by decide) ?_
      obtain ⟨u16, e17, E⟩ := gb_some E
      obtain ⟨r13, g14, e15, E⟩ := cb_some E
      refine r_callV0 X hl0 (ci := 9) dX9_deed_26 y_X9_get m_X9_64 rfl rfl e17 (t_x9_get (l := l) (G := G) e15) rfl rfl (Nat.le_of_ble_eq_true rfl) (by decide) ?_
      obtain ⟨u21, e22, E⟩ := gb_some E
      obtain ⟨r18, g19, e20, E⟩ := cb_some E
      refine r_callV0 X hl0 (ci := 9) dX9_deed_29 y_X9_noise m_X9_102 rfl rfl e22 (t_x9_noise (l := l) (G := G) e20) rfl rfl (Nat.le_of_ble_eq_true rfl) (by decide) ?_
      refine r_bipush X (v := 6) dX9_deed_32 (by decide) ?_
      refine r_icmp_le X 41 dX9_deed_34 (by decide) (fun c23 => ?_) (fun c23 => ?_)
      · rw [if_pos c23] at E
        refine r_iconst X (v := 2) dX9_deed_41 (by decide) ?_
        cases E
        exact r_iret X hr dX9_deed_42 (by decide) (by decide)
      · rw [if_neg c23] at E
        refine r_iconst X (v := 1) dX9_deed_37 (by decide) ?_
        refine r_goto X 42 dX9_deed_38 (by decide) ?_
        cases E
        exact r_iret X hr dX9_deed_42 (by decide) (by decide)
    · rw [if_pos c12] at E
      refine r_iconst X (v := 3) dX9_deed_20 (by decide) ?_
      cases E
      exact r_iret X hr dX9_deed_21 (by decide) (by decide)
  · rw [if_neg c6] at E
    refine r_iconst X (v := 0) dX9_deed_8 (by decide) ?_
    cases E
    exact r_iret X hr dX9_deed_9 (by decide) (by decide)
theorem t_x9_deed {l : Launch} {G : GG} {p : Nat} {b0 : Int32} {g : AH} {r : Int32} {g1 : AH} (E : x9_deed p b0 g = some (r, g1)) : Ct l G yX9_deed cX9_deed 2 (some .int) ⟨9, 0, 0, 234⟩ [.ref p, .int b0] g (some (.int r)) g1 :=
  ct_of (L0 := [(0, .ref p), (1, .int b0)]) y_X9_deed rfl (Nat.le_of_ble_eq_true rfl) fun M hl0 X hr hnm => t_x9_deed_b X hl0 hr hnm E
set_option maxHeartbeats 4000000 in
set_option maxRecDepth 100000 in
theorem t_x9_countDeed_j30_4 {l : Launch} {G : GG} {M : MC} (X : CX M G cX9_countDeed 4 RX9 ⟨10, 0, 0, 255⟩) (hl0 : M.2.1 = l) (hr : (mM M).sig.returnType = (some .int)) (hnm : (mM M).name = yX9_countDeed.name) {Q : State → Prop} {kc ks : Nat} {s9 : ((Int32 × Int32) ⊕ (Int32))} {g1 : AH} {a0 : Nat} {a1 : Int32} {a3 : Int32} {s0 : Int32} {s1 : Int32} (hc : ∀ s1, s9 = .inl s1 → WW M G 4 Q kc ks g1 4 [(0, .ref a0), (1, .int a1), (2, .int s1.1), (3, .int s1.2)] []) (hx : ∀ t, s9 = .inr t → WW M G 4 Q kc ks g1 38 [(2, .int t)] []) {g : AH} (E : x9_countDeed_j30_4 a0 a1 a3 s0 s1 g = some (s9, g1)) : WW M G 4 Q kc ks g 30 [(0, .ref a0), (1, .int a1), (3, .int a3)] [.int s0, .int s1] := by
  unfold x9_countDeed_j30_4 at E
  refine r_iadd X dX9_countDeed_30 ?_
  refine r_istore_n X 2 (L1 := [(2, .int (s1 + s0)), (0, .ref a0), (1, .int a1), (3, .int a3)]) dX9_countDeed_31 rfl (by decide) rfl ?_
  refine r_iinc X (v := (a3 + 1)) (L1 := [(3, .int (a3 + 1)), (2, .int (s1 + s0)), (0, .ref a0), (1, .int a1)]) dX9_countDeed_32 rfl rfl (by decide) rfl ?_
  refine r_goto X 4 dX9_countDeed_35 (by decide) ?_
  cases E
  exact r_pick (by rfl : lpick [(3, .int (a3 + 1)), (2, .int (s1 + s0)), (0, .ref a0), (1, .int a1)] [2, 3, 1, 0] = _) (hc _ rfl)
set_option maxHeartbeats 4000000 in
set_option maxRecDepth 100000 in
theorem t_x9_countDeed_l4 {l : Launch} {G : GG} {M : MC} (X : CX M G cX9_countDeed 4 RX9 ⟨10, 0, 0, 255⟩) (hl0 : M.2.1 = l) (hr : (mM M).sig.returnType = (some .int)) (hnm : (mM M).name = yX9_countDeed.name) {Q : State → Prop} {kc ks : Nat} {s9 : ((Int32 × Int32) ⊕ (Int32))} {g1 : AH} {a0 : Nat} {a1 : Int32} {s0 : Int32 × Int32} (hc : ∀ s1, s9 = .inl s1 → WW M G 4 Q kc ks g1 4 [(0, .ref a0), (1, .int a1), (2, .int s1.1), (3, .int s1.2)] []) (hx : ∀ t, s9 = .inr t → WW M G 4 Q kc ks g1 38 [(2, .int t)] []) {g : AH} (E : x9_countDeed_l4 a0 a1 s0 g = some (s9, g1)) : WW M G 4 Q kc ks g 4 [(0, .ref a0), (1, .int a1), (2, .int s0.1), (3, .int s0.2)] [] := by
  unfold x9_countDeed_l4 at E
  refine r_iload_n X 3 dX9_countDeed_4 rfl rfl ?_
  refine r_aload_n X 0 dX9_countDeed_5 rfl rfl ?_
  obtain ⟨x1, e2, E⟩ := gb_some E
  refine r_getR X dX9_countDeed_6 f_X9_7 e2 ?_
  refine r_bipush X (v := 12) dX9_countDeed_9 (by decide) ?_
  obtain ⟨x3, e4, E⟩ := gb_some E
  refine r_iald X dX9_countDeed_11 e4 ?_
  refine r_icmp_ge X 38 dX9_countDeed_12 (by decide) (fun c5 => ?_) (fun c5 => ?_)
  · rw [if_pos c5] at E
    cases E
    exact r_pick (by rfl : lpick [(0, .ref a0), (1, .int a1), (2, .int s0.1), (3, .int s0.2)] [2] = _) (hx _ rfl)
  · rw [if_neg c5] at E
    refine r_iload_n X 2 dX9_countDeed_15 rfl rfl ?_
    refine r_aload_n X 0 dX9_countDeed_16 rfl rfl ?_
    refine r_iload_n X 3 dX9_countDeed_17 rfl rfl ?_
    obtain ⟨u9, e10, E⟩ := gb_some E
    obtain ⟨r6, g7, e8, E⟩ := cb_some E
    refine r_callV0 X hl0 (ci := 9) dX9_countDeed_18 y_X9_deed m_X9_105 rfl rfl e10 (t_x9_deed (l := l) (G := G) e8) rfl rfl (Nat.le_of_ble_eq_true rfl) (by decide) ?_
    refine r_iload_n X 1 dX9_countDeed_21 rfl rfl ?_
    refine r_icmp_ne X 29 dX9_countDeed_22 (by decide) (fun c11 => ?_) (fun c11 => ?_)
    · rw [if_neg c11] at E
      refine r_iconst X (v := 0) dX9_countDeed_29 (by decide) ?_
      exact r_pick (by rfl : lpick [(0, .ref a0), (1, .int a1), (2, .int s0.1), (3, .int s0.2)] [0, 1, 3] = _) (t_x9_countDeed_j30_4 X hl0 hr hnm hc hx E)
    · rw [if_pos c11] at E
      refine r_iconst X (v := 1) dX9_countDeed_25 (by decide) ?_
      refine r_goto X 30 dX9_countDeed_26 (by decide) ?_
      exact r_pick (by rfl : lpick [(0, .ref a0), (1, .int a1), (2, .int s0.1), (3, .int s0.2)] [0, 1, 3] = _) (t_x9_countDeed_j30_4 X hl0 hr hnm hc hx E)
set_option maxHeartbeats 4000000 in
theorem t_x9_countDeed_l4_r {l : Launch} {G : GG} {M : MC} (X : CX M G cX9_countDeed 4 RX9 ⟨10, 0, 0, 255⟩) (hl0 : M.2.1 = l) (hr : (mM M).sig.returnType = (some .int)) (hnm : (mM M).name = yX9_countDeed.name) {Q : State → Prop} {kc ks : Nat} {a0 : Nat} {a1 : Int32} : ∀ (n : Nat) (s0 : Int32 × Int32) (g : AH) (t : (Int32)) (g1 : AH), loopX (x9_countDeed_l4 a0 a1) n s0 g = some (t, g1) → WW M G 4 Q kc ks g1 38 [(2, .int t)] [] → WW M G 4 Q kc ks g 4 [(0, .ref a0), (1, .int a1), (2, .int s0.1), (3, .int s0.2)] [] :=
  loop_cps (K := fun t g1 => WW M G 4 Q kc ks g1 38 [(2, .int t)] []) (fun _ s0 g => WW M G 4 Q kc ks g 4 [(0, .ref a0), (1, .int a1), (2, .int s0.1), (3, .int s0.2)] []) (fun n s0 g st g1 E hc hx => t_x9_countDeed_l4 X hl0 hr hnm hc hx E)
set_option maxHeartbeats 4000000 in
set_option maxRecDepth 100000 in
theorem t_x9_countDeed_b {l : Launch} {G : GG} {M : MC} (X : CX M G cX9_countDeed 4 RX9 ⟨10, 0, 0, 255⟩) (hl0 : M.2.1 = l) (hr : (mM M).sig.returnType = (some .int)) (hnm : (mM M).name = yX9_countDeed.name) {p : Nat} {b0 : Int32} {g : AH} {r : Int32} {g1 : AH} (E : x9_countDeed p b0 g = some (r, g1)) : WW M G 4 (RQ M G (some (.int r)) g1 0 0) 0 0 g 0 [(0, .ref p), (1, .int b0)] [] := by
  unfold x9_countDeed at E
  refine r_iconst X (v := 0) dX9_countDeed_0 (by decide) ?_
  refine r_istore_n X 2 (L1 := [(2, .int 0), (0, .ref p), (1, .int b0)]) dX9_countDeed_1 rfl (by decide) rfl ?_
  refine r_iconst X (v := 0) dX9_countDeed_2 (by decide) ?_
  refine r_istore_n X 3 (L1 := [(3, .int 0), (2, .int 0), (0, .ref p), (1, .int b0)]) dX9_countDeed_3 rfl (by decide) rfl ?_
  obtain ⟨t1, g2, e3, E⟩ := cb_some E
  refine r_pick (by rfl : lpick [(3, .int 0), (2, .int 0), (0, .ref p), (1, .int b0)] [2, 3, 1, 0] = _) (t_x9_countDeed_l4_r X hl0 hr hnm _ _ _ _ _ e3 ?_)
  refine r_iload_n X 2 dX9_countDeed_38 rfl rfl ?_
  cases E
  exact r_iret X hr dX9_countDeed_39 (by decide) (by decide)
theorem t_x9_countDeed {l : Launch} {G : GG} {p : Nat} {b0 : Int32} {g : AH} {r : Int32} {g1 : AH} (E : x9_countDeed p b0 g = some (r, g1)) : Ct l G yX9_countDeed cX9_countDeed 4 (some .int) ⟨10, 0, 0, 255⟩ [.ref p, .int b0] g (some (.int r)) g1 :=
  ct_of (L0 := [(0, .ref p), (1, .int b0)]) y_X9_countDeed rfl (Nat.le_of_ble_eq_true rfl) fun M hl0 X hr hnm => t_x9_countDeed_b X hl0 hr hnm E
set_option maxHeartbeats 4000000 in
set_option maxRecDepth 100000 in
theorem t_x9_sumOf_l4 {l : Launch} {G : GG} {M : MC} (X : CX M G cX9_sumOf 4 RX9 ⟨2, 0, 0, 82⟩) (hl0 : M.2.1 = l) (hr : (mM M).sig.returnType = (some .int)) (hnm : (mM M).name = yX9_sumOf.name) {Q : State → Prop} {kc ks : Nat} {s9 : ((Int32 × Int32) ⊕ (Int32))} {g1 : AH} {a0 : Nat} {a1 : Int32} {s0 : Int32 × Int32} (hc : ∀ s1, s9 = .inl s1 → WW M G 4 Q kc ks g1 4 [(0, .ref a0), (1, .int a1), (2, .int s1.1), (3, .int s1.2)] []) (hx : ∀ t, s9 = .inr t → WW M G 4 Q kc ks g1 30 [(2, .int t)] []) {g : AH} (E : x9_sumOf_l4 a0 a1 s0 g = some (s9, g1)) : WW M G 4 Q kc ks g 4 [(0, .ref a0), (1, .int a1), (2, .int s0.1), (3, .int s0.2)] [] := by
  unfold x9_sumOf_l4 at E
  refine r_iload_n X 3 dX9_sumOf_4 rfl rfl ?_
  refine r_aload_n X 0 dX9_sumOf_5 rfl rfl ?_
  obtain ⟨x1, e2, E⟩ := gb_some E
  refine r_getR X dX9_sumOf_6 f_X9_7 e2 ?_
  refine r_bipush X (v := 12) dX9_sumOf_9 (by decide) ?_
  obtain ⟨x3, e4, E⟩ := gb_some E
  refine r_iald X dX9_sumOf_11 e4 ?_
  refine r_icmp_ge X 30 dX9_sumOf_12 (by decide) (fun c5 => ?_) (fun c5 => ?_)
  · rw [if_pos c5] at E
    cases E
    exact r_pick (by rfl : lpick [(0, .ref a0), (1, .int a1), (2, .int s0.1), (3, .int s0.2)] [2] = _) (hx _ rfl)
  · rw [if_neg c5] at E
    refine r_iload_n X 2 dX9_sumOf_15 rfl rfl ?_
    refine r_aload_n X 0 dX9_sumOf_16 rfl rfl ?_
    refine r_iload_n X 3 dX9_sumOf_17 rfl rfl ?_
    refine r_iload_n X 1 dX9_sumOf_18 rfl rfl ?_
    obtain ⟨u9, e10, E⟩ := gb_some E
    obtain ⟨r6, g7, e8, E⟩ := cb_some E
    refine r_callV0 X hl0 (ci := 9) dX9_sumOf_19 y_X9_get m_X9_64 rfl rfl e10 (t_x9_get (l := l) (G := G) e8) rfl rfl (Nat.le_of_ble_eq_true rfl) (by decide) ?_
    refine r_iadd X dX9_sumOf_22 ?_
    refine r_istore_n X 2 (L1 := [(2, .int (s0.1 + r6)), (0, .ref a0), (1, .int a1), (3, .int s0.2)]) dX9_sumOf_23 rfl (by decide) rfl ?_
    refine r_iinc X (v := (s0.2 + 1)) (L1 := [(3, .int (s0.2 + 1)), (2, .int (s0.1 + r6)), (0, .ref a0), (1, .int a1)]) dX9_sumOf_24 rfl rfl (by decide) rfl ?_
    refine r_goto X 4 dX9_sumOf_27 (by decide) ?_
    cases E
    exact r_pick (by rfl : lpick [(3, .int (s0.2 + 1)), (2, .int (s0.1 + r6)), (0, .ref a0), (1, .int a1)] [2, 3, 1, 0] = _) (hc _ rfl)
set_option maxHeartbeats 4000000 in
theorem t_x9_sumOf_l4_r {l : Launch} {G : GG} {M : MC} (X : CX M G cX9_sumOf 4 RX9 ⟨2, 0, 0, 82⟩) (hl0 : M.2.1 = l) (hr : (mM M).sig.returnType = (some .int)) (hnm : (mM M).name = yX9_sumOf.name) {Q : State → Prop} {kc ks : Nat} {a0 : Nat} {a1 : Int32} : ∀ (n : Nat) (s0 : Int32 × Int32) (g : AH) (t : (Int32)) (g1 : AH), loopX (x9_sumOf_l4 a0 a1) n s0 g = some (t, g1) → WW M G 4 Q kc ks g1 30 [(2, .int t)] [] → WW M G 4 Q kc ks g 4 [(0, .ref a0), (1, .int a1), (2, .int s0.1), (3, .int s0.2)] [] :=
  loop_cps (K := fun t g1 => WW M G 4 Q kc ks g1 30 [(2, .int t)] []) (fun _ s0 g => WW M G 4 Q kc ks g 4 [(0, .ref a0), (1, .int a1), (2, .int s0.1), (3, .int s0.2)] []) (fun n s0 g st g1 E hc hx => t_x9_sumOf_l4 X hl0 hr hnm hc hx E)
set_option maxHeartbeats 4000000 in
set_option maxRecDepth 100000 in
theorem t_x9_sumOf_b {l : Launch} {G : GG} {M : MC} (X : CX M G cX9_sumOf 4 RX9 ⟨2, 0, 0, 82⟩) (hl0 : M.2.1 = l) (hr : (mM M).sig.returnType = (some .int)) (hnm : (mM M).name = yX9_sumOf.name) {p : Nat} {b0 : Int32} {g : AH} {r : Int32} {g1 : AH} (E : x9_sumOf p b0 g = some (r, g1)) : WW M G 4 (RQ M G (some (.int r)) g1 0 0) 0 0 g 0 [(0, .ref p), (1, .int b0)] [] := by
  unfold x9_sumOf at E
  refine r_iconst X (v := 0) dX9_sumOf_0 (by decide) ?_
  refine r_istore_n X 2 (L1 := [(2, .int 0), (0, .ref p), (1, .int b0)]) dX9_sumOf_1 rfl (by decide) rfl ?_
  refine r_iconst X (v := 0) dX9_sumOf_2 (by decide) ?_
  refine r_istore_n X 3 (L1 := [(3, .int 0), (2, .int 0), (0, .ref p), (1, .int b0)]) dX9_sumOf_3 rfl (by decide) rfl ?_
  obtain ⟨t1, g2, e3, E⟩ := cb_some E
  refine r_pick (by rfl : lpick [(3, .int 0), (2, .int 0), (0, .ref p), (1, .int b0)] [2, 3, 1, 0] = _) (t_x9_sumOf_l4_r X hl0 hr hnm _ _ _ _ _ e3 ?_)
  refine r_iload_n X 2 dX9_sumOf_30 rfl rfl ?_
  cases E
  exact r_iret X hr dX9_sumOf_31 (by decide) (by decide)
theorem t_x9_sumOf {l : Launch} {G : GG} {p : Nat} {b0 : Int32} {g : AH} {r : Int32} {g1 : AH} (E : x9_sumOf p b0 g = some (r, g1)) : Ct l G yX9_sumOf cX9_sumOf 4 (some .int) ⟨2, 0, 0, 82⟩ [.ref p, .int b0] g (some (.int r)) g1 :=
  ct_of (L0 := [(0, .ref p), (1, .int b0)]) y_X9_sumOf rfl (Nat.le_of_ble_eq_true rfl) fun M hl0 X hr hnm => t_x9_sumOf_b X hl0 hr hnm E
set_option maxHeartbeats 4000000 in
set_option maxRecDepth 100000 in
theorem t_x9_burn_b {l : Launch} {G : GG} {M : MC} (X : CX M G cX9_burn 2 RX9 ⟨2, 0, 0, 150⟩) (hl0 : M.2.1 = l) (hr : (mM M).sig.returnType = none) (hnm : (mM M).name = yX9_burn.name) {p : Nat} {g : AH} {r : Unit} {g1 : AH} (E : x9_burn p g = some (r, g1)) : WW M G 2 (RQ M G none g1 0 0) 0 0 g 0 [(0, .ref p)] [] := by
  unfold x9_burn at E
  refine r_aload_n X 0 dX9_burn_0 rfl rfl ?_
  obtain ⟨x1, e2, E⟩ := gb_some E
  refine r_getR X dX9_burn_1 f_X9_7 e2 ?_
  refine r_iconst X (v := 1) dX9_burn_4 (by decide) ?_
  obtain ⟨x3, e4, E⟩ := gb_some E
  refine r_iald X dX9_burn_5 e4 ?_
  refine r_aload_n X 0 dX9_burn_6 rfl rfl ?_
  obtain ⟨x5, e6, E⟩ := gb_some E
  refine r_getR X dX9_burn_7 f_X9_7 e6 ?_
  refine r_iconst X (v := 0) dX9_burn_10 (by decide) ?_
  obtain ⟨x7, e8, E⟩ := gb_some E
  refine r_iald X dX9_burn_11 e8 ?_
  refine r_min X dX9_burn_12 m_X9_108m (by decide) (Nat.le_of_ble_eq_true rfl) ?_
  refine r_istore_n X 1 (L1 := [(1, .int (if x7 < x3 then x7 else x3)), (0, .ref p)]) dX9_burn_15 rfl (by decide) rfl ?_
  refine r_aload_n X 0 dX9_burn_16 rfl rfl ?_
  obtain ⟨x9, e10, E⟩ := gb_some E
  refine r_getR X dX9_burn_17 f_X9_7 e10 ?_
  refine r_iconst X (v := 0) dX9_burn_20 (by decide) ?_
  refine r_dup2 X dX9_burn_21 rfl rfl ?_
  obtain ⟨x11, e12, E⟩ := gb_some E
  refine r_iald X dX9_burn_22 e12 ?_
  refine r_iload_n X 1 dX9_burn_23 rfl rfl ?_
  refine r_isub X dX9_burn_24 ?_
  obtain ⟨g13, e14, E⟩ := gb_some E
  refine r_iast X dX9_burn_25 e14 ?_
  refine r_aload_n X 0 dX9_burn_26 rfl rfl ?_
  obtain ⟨x15, e16, E⟩ := gb_some E
  refine r_getR X dX9_burn_27 f_X9_7 e16 ?_
  refine r_iconst X (v := 4) dX9_burn_30 (by decide) ?_
  refine r_dup2 X dX9_burn_31 rfl rfl ?_
  obtain ⟨x17, e18, E⟩ := gb_some E
  refine r_iald X dX9_burn_32 e18 ?_
  refine r_iload_n X 1 dX9_burn_33 rfl rfl ?_
  refine r_iadd X dX9_burn_34 ?_
  obtain ⟨g19, e20, E⟩ := gb_some E
  refine r_iast X dX9_burn_35 e20 ?_
  refine r_aload_n X 0 dX9_burn_36 rfl rfl ?_
  obtain ⟨x21, e22, E⟩ := gb_some E
  refine r_getR X dX9_burn_37 f_X9_7 e22 ?_
  refine r_iconst X (v := 5) dX9_burn_40 (by decide) ?_
  refine r_dup2 X dX9_burn_41 rfl rfl ?_
  obtain ⟨x23, e24, E⟩ := gb_some E
  refine r_iald X dX9_burn_42 e24 ?_
  refine r_iload_n X 1 dX9_burn_43 rfl rfl ?_
  refine r_iadd X dX9_burn_44 ?_
  obtain ⟨g25, e26, E⟩ := gb_some E
  refine r_iast X dX9_burn_45 e26 ?_
  refine r_aload_n X 0 dX9_burn_46 rfl rfl ?_
  obtain ⟨x27, e28, E⟩ := gb_some E
  refine r_getR X dX9_burn_47 f_X9_7 e28 ?_
  refine r_iconst X (v := 2) dX9_burn_50 (by decide) ?_
  refine r_aload_n X 0 dX9_burn_51 rfl rfl ?_
  obtain ⟨x29, e30, E⟩ := gb_some E
  refine r_getR X dX9_burn_52 f_X9_7 e30 ?_
  refine r_iconst X (v := 2) dX9_burn_55 (by decide) ?_
  obtain ⟨x31, e32, E⟩ := gb_some E
  refine r_iald X dX9_burn_56 e32 ?_
  refine r_iconst X (v := 2) dX9_burn_57 (by decide) ?_
  refine r_idiv X dX9_burn_58 (by decide) ?_
  refine r_iconst X (v := 4) dX9_burn_59 (by decide) ?_
  refine r_iload_n X 1 dX9_burn_60 rfl rfl ?_
  refine r_imul X dX9_burn_61 ?_
  refine r_iadd X dX9_burn_62 ?_
  obtain ⟨g34, e35, E⟩ := gb_some E
  refine r_iast X dX9_burn_63 e35 ?_
  cases E
  exact r_vret X hr dX9_burn_64 (by decide) (by decide)
theorem t_x9_burn {l : Launch} {G : GG} {p : Nat} {g : AH} {r : Unit} {g1 : AH} (E : x9_burn p g = some (r, g1)) : Ct l G yX9_burn cX9_burn 2 none ⟨2, 0, 0, 150⟩ [.ref p] g none g1 :=
  ct_of (L0 := [(0, .ref p)]) y_X9_burn rfl (Nat.le_of_ble_eq_true rfl) fun M hl0 X hr hnm => t_x9_burn_b X hl0 hr hnm E
set_option maxHeartbeats 4000000 in
set_option maxRecDepth 100000 in
theorem t_x9_pay_b {l : Launch} {G : GG} {M : MC} (X : CX M G cX9_pay 4 RX9 ⟨3, 0, 0, 150⟩) (hl0 : M.2.1 = l) (hr : (mM M).sig.returnType = (some .int)) (hnm : (mM M).name = yX9_pay.name) {p : Nat} {b0 : Int32} {b1 : Int32} {g : AH} {r : Int32} {g1 : AH} (E : x9_pay p b0 b1 g = some (r, g1)) : WW M G 4 (RQ M G (some (.int r)) g1 0 0) 0 0 g 0 [(0, .ref p), (1, .int b0), (2, .int b1)] [] := by
  unfold x9_pay at E
  refine r_iload_n X 2 dX9_pay_0 rfl rfl ?_
  refine r_aload_n X 0 dX9_pay_1 rfl rfl ?_
  refine r_iload_n X 1 dX9_pay_2 rfl rfl ?_
  refine r_iconst X (v := 2) dX9_pay_3 (by decide) ?_
  obtain ⟨u4, e5, E⟩ := gb_some E
  obtain ⟨r1, g2, e3, E⟩ := cb_some E
  refine r_callV0 X hl0 (ci := 9) dX9_pay_4 y_X9_get m_X9_64 rfl rfl e5 (t_x9_get (l := l) (G := G) e3) rfl rfl (Nat.le_of_ble_eq_true rfl) (by decide) ?_
  refine r_min X dX9_pay_7 m_X9_108m (by decide) (Nat.le_of_ble_eq_true rfl) ?_
  refine r_istore_n X 3 (L1 := [(3, .int (if r1 < b1 then r1 else b1)), (0, .ref p), (1, .int b0), (2, .int b1)]) dX9_pay_10 rfl (by decide) rfl ?_
  refine r_aload_n X 0 dX9_pay_11 rfl rfl ?_
  refine r_iload_n X 1 dX9_pay_12 rfl rfl ?_
  refine r_iconst X (v := 2) dX9_pay_13 (by decide) ?_
  refine r_iload_n X 3 dX9_pay_14 rfl rfl ?_
  refine r_ineg X dX9_pay_15 ?_
  obtain ⟨u9, e10, E⟩ := gb_some E
  obtain ⟨r6, g7, e8, E⟩ := cb_some E
  refine r_callV0 X hl0 (ci := 9) dX9_pay_16 y_X9_increase m_X9_113 rfl rfl e10 (t_x9_increase (l := l) (G := G) e8) rfl rfl (Nat.le_of_ble_eq_true rfl) (by decide) ?_
  refine r_aload_n X 0 dX9_pay_19 rfl rfl ?_
  refine r_iload_n X 1 dX9_pay_20 rfl rfl ?_
  refine r_iconst X (v := 3) dX9_pay_21 (by decide) ?_
  refine r_iload_n X 2 dX9_pay_22 rfl rfl ?_
  refine r_iload_n X 3 dX9_pay_23 rfl rfl ?_
  refine r_isub X dX9_pay_24 ?_
  obtain ⟨u14, e15, E⟩ := gb_some E
  obtain ⟨r11, g12, e13, E⟩ := cb_some E
  refine r_callV0 X hl0 (ci := 9) dX9_pay_25 y_X9_increase m_X9_113 rfl rfl e15 (t_x9_increase (l := l) (G := G) e13) rfl rfl (Nat.le_of_ble_eq_true rfl) (by decide) ?_
  refine r_aload_n X 0 dX9_pay_28 rfl rfl ?_
  obtain ⟨x16, e17, E⟩ := gb_some E
  refine r_getR X dX9_pay_29 f_X9_26 e17 ?_
  refine r_iload_n X 1 dX9_pay_32 rfl rfl ?_
  refine r_dup2 X dX9_pay_33 rfl rfl ?_
  obtain ⟨x18, e19, E⟩ := gb_some E
  refine r_iald X dX9_pay_34 e19 ?_
  refine r_iload_n X 2 dX9_pay_35 rfl rfl ?_
  refine r_iadd X dX9_pay_36 ?_
  obtain ⟨g20, e21, E⟩ := gb_some E
  refine r_iast X dX9_pay_37 e21 ?_
  refine r_iload_n X 3 dX9_pay_38 rfl rfl ?_
  cases E
  exact r_iret X hr dX9_pay_39 (by decide) (by decide)
theorem t_x9_pay {l : Launch} {G : GG} {p : Nat} {b0 : Int32} {b1 : Int32} {g : AH} {r : Int32} {g1 : AH} (E : x9_pay p b0 b1 g = some (r, g1)) : Ct l G yX9_pay cX9_pay 4 (some .int) ⟨3, 0, 0, 150⟩ [.ref p, .int b0, .int b1] g (some (.int r)) g1 :=
  ct_of (L0 := [(0, .ref p), (1, .int b0), (2, .int b1)]) y_X9_pay rfl (Nat.le_of_ble_eq_true rfl) fun M hl0 X hr hnm => t_x9_pay_b X hl0 hr hnm E
set_option maxHeartbeats 4000000 in
set_option maxRecDepth 100000 in
theorem t_x9_payLogs_j49_11 {l : Launch} {G : GG} {M : MC} (X : CX M G cX9_payLogs 4 RX9 ⟨4, 0, 0, 173⟩) (hl0 : M.2.1 = l) (hr : (mM M).sig.returnType = none) (hnm : (mM M).name = yX9_payLogs.name) {Q : State → Prop} {kc ks : Nat} {s9 : ((Int32) ⊕ (Unit))} {g1 : AH} {a0 : Nat} {a1 : Int32} {a2 : Int32} {s0 : Int32} {s1 : Int32} (hc : ∀ s1, s9 = .inl s1 → WW M G 4 Q kc ks g1 11 [(0, .ref a0), (1, .int a1), (2, .int s1)] []) (hx : ∀ t, s9 = .inr t → WW M G 4 Q kc ks g1 73 [(0, .ref a0)] []) {g : AH} (E : x9_payLogs_j49_11 a0 a1 a2 s0 s1 g = some (s9, g1)) : WW M G 4 Q kc ks g 49 [(0, .ref a0), (1, .int a1), (2, .int a2)] [.int s0, .int s1] := by
  unfold x9_payLogs_j49_11 at E
  refine r_iadd X dX9_payLogs_49 ?_
  refine r_istore_n X 3 (L1 := [(3, .int (s1 + s0)), (0, .ref a0), (1, .int a1), (2, .int a2)]) dX9_payLogs_50 rfl (by decide) rfl ?_
  refine r_aload_n X 0 dX9_payLogs_51 rfl rfl ?_
  obtain ⟨x1, e2, E⟩ := gb_some E
  refine r_getR X dX9_payLogs_52 f_X9_7 e2 ?_
  refine r_bipush X (v := 6) dX9_payLogs_55 (by decide) ?_
  refine r_dup2 X dX9_payLogs_57 rfl rfl ?_
  obtain ⟨x3, e4, E⟩ := gb_some E
  refine r_iald X dX9_payLogs_58 e4 ?_
  refine r_aload_n X 0 dX9_payLogs_59 rfl rfl ?_
  refine r_iload_n X 2 dX9_payLogs_60 rfl rfl ?_
  refine r_iload_n X 3 dX9_payLogs_61 rfl rfl ?_
  obtain ⟨u8, e9, E⟩ := gb_some E
  obtain ⟨r5, g6, e7, E⟩ := cb_some E
  refine r_callV0 X hl0 (ci := 9) dX9_payLogs_62 y_X9_pay m_X9_116 rfl rfl e9 (t_x9_pay (l := l) (G := G) e7) rfl rfl (Nat.le_of_ble_eq_true rfl) (by decide) ?_
  refine r_iadd X dX9_payLogs_65 ?_
  obtain ⟨g10, e11, E⟩ := gb_some E
  refine r_iast X dX9_payLogs_66 e11 ?_
  refine r_iinc X (v := (a2 + 1)) (L1 := [(2, .int (a2 + 1)), (3, .int (s1 + s0)), (0, .ref a0), (1, .int a1)]) dX9_payLogs_67 rfl rfl (by decide) rfl ?_
  refine r_goto X 11 dX9_payLogs_70 (by decide) ?_
  cases E
  exact r_pick (by rfl : lpick [(2, .int (a2 + 1)), (3, .int (s1 + s0)), (0, .ref a0), (1, .int a1)] [2, 3, 0] = _) (hc _ rfl)
set_option maxHeartbeats 4000000 in
set_option maxRecDepth 100000 in
theorem t_x9_payLogs_l11 {l : Launch} {G : GG} {M : MC} (X : CX M G cX9_payLogs 4 RX9 ⟨4, 0, 0, 173⟩) (hl0 : M.2.1 = l) (hr : (mM M).sig.returnType = none) (hnm : (mM M).name = yX9_payLogs.name) {Q : State → Prop} {kc ks : Nat} {s9 : ((Int32) ⊕ (Unit))} {g1 : AH} {a0 : Nat} {a1 : Int32} {s0 : Int32} (hc : ∀ s1, s9 = .inl s1 → WW M G 4 Q kc ks g1 11 [(0, .ref a0), (1, .int a1), (2, .int s1)] []) (hx : ∀ t, s9 = .inr t → WW M G 4 Q kc ks g1 73 [(0, .ref a0)] []) {g : AH} (E : x9_payLogs_l11 a0 a1 s0 g = some (s9, g1)) : WW M G 4 Q kc ks g 11 [(0, .ref a0), (1, .int a1), (2, .int s0)] [] := by
  unfold x9_payLogs_l11 at E
  refine r_iload_n X 2 dX9_payLogs_11 rfl rfl ?_
  refine r_aload_n X 0 dX9_payLogs_12 rfl rfl ?_
  obtain ⟨x1, e2, E⟩ := gb_some E
  refine r_getR X dX9_payLogs_13 f_X9_7 e2 ?_
  refine r_bipush X (v := 12) dX9_payLogs_16 (by decide) ?_
  obtain ⟨x3, e4, E⟩ := gb_some E
  refine r_iald X dX9_payLogs_18 e4 ?_
  refine r_icmp_ge X 73 dX9_payLogs_19 (by decide) (fun c5 => ?_) (fun c5 => ?_)
  · rw [if_pos c5] at E
    cases E
    exact r_pick (by rfl : lpick [(0, .ref a0), (1, .int a1), (2, .int s0)] [0] = _) (hx _ rfl)
  · rw [if_neg c5] at E
    refine r_iload_n X 1 dX9_payLogs_22 rfl rfl ?_
    refine r_aload_n X 0 dX9_payLogs_23 rfl rfl ?_
    obtain ⟨x6, e7, E⟩ := gb_some E
    refine r_getR X dX9_payLogs_24 f_X9_7 e7 ?_
    refine r_bipush X (v := 12) dX9_payLogs_27 (by decide) ?_
    obtain ⟨x8, e9, E⟩ := gb_some E
    refine r_iald X dX9_payLogs_29 e9 ?_
    by_cases c10 : x8 = 0
    · rw [if_pos c10] at E; cases E
    rw [if_neg c10] at E
    refine r_idiv X dX9_payLogs_30 c10 ?_
    refine r_iload_n X 2 dX9_payLogs_31 rfl rfl ?_
    refine r_iload_n X 1 dX9_payLogs_32 rfl rfl ?_
    refine r_aload_n X 0 dX9_payLogs_33 rfl rfl ?_
    obtain ⟨x11, e12, E⟩ := gb_some E
    refine r_getR X dX9_payLogs_34 f_X9_7 e12 ?_
    refine r_bipush X (v := 12) dX9_payLogs_37 (by decide) ?_
    obtain ⟨x13, e14, E⟩ := gb_some E
    refine r_iald X dX9_payLogs_39 e14 ?_
    by_cases c15 : x13 = 0
    · rw [if_pos c15] at E; cases E
    rw [if_neg c15] at E
    refine r_irem X dX9_payLogs_40 c15 ?_
    refine r_icmp_ge X 48 dX9_payLogs_41 (by decide) (fun c16 => ?_) (fun c16 => ?_)
    · rw [if_pos c16] at E
      refine r_iconst X (v := 0) dX9_payLogs_48 (by decide) ?_
      exact r_pick (by rfl : lpick [(0, .ref a0), (1, .int a1), (2, .int s0)] [0, 1, 2] = _) (t_x9_payLogs_j49_11 X hl0 hr hnm hc hx E)
    · rw [if_neg c16] at E
      refine r_iconst X (v := 1) dX9_payLogs_44 (by decide) ?_
      refine r_goto X 49 dX9_payLogs_45 (by decide) ?_
      exact r_pick (by rfl : lpick [(0, .ref a0), (1, .int a1), (2, .int s0)] [0, 1, 2] = _) (t_x9_payLogs_j49_11 X hl0 hr hnm hc hx E)
set_option maxHeartbeats 4000000 in
theorem t_x9_payLogs_l11_r {l : Launch} {G : GG} {M : MC} (X : CX M G cX9_payLogs 4 RX9 ⟨4, 0, 0, 173⟩) (hl0 : M.2.1 = l) (hr : (mM M).sig.returnType = none) (hnm : (mM M).name = yX9_payLogs.name) {Q : State → Prop} {kc ks : Nat} {a0 : Nat} {a1 : Int32} : ∀ (n : Nat) (s0 : Int32) (g : AH) (t : (Unit)) (g1 : AH), loopX (x9_payLogs_l11 a0 a1) n s0 g = some (t, g1) → WW M G 4 Q kc ks g1 73 [(0, .ref a0)] [] → WW M G 4 Q kc ks g 11 [(0, .ref a0), (1, .int a1), (2, .int s0)] [] :=
  loop_cps (K := fun t g1 => WW M G 4 Q kc ks g1 73 [(0, .ref a0)] []) (fun _ s0 g => WW M G 4 Q kc ks g 11 [(0, .ref a0), (1, .int a1), (2, .int s0)] []) (fun n s0 g st g1 E hc hx => t_x9_payLogs_l11 X hl0 hr hnm hc hx E)
set_option maxHeartbeats 4000000 in
set_option maxRecDepth 100000 in
theorem t_x9_payLogs_b {l : Launch} {G : GG} {M : MC} (X : CX M G cX9_payLogs 4 RX9 ⟨4, 0, 0, 173⟩) (hl0 : M.2.1 = l) (hr : (mM M).sig.returnType = none) (hnm : (mM M).name = yX9_payLogs.name) {p : Nat} {g : AH} {r : Unit} {g1 : AH} (E : x9_payLogs p g = some (r, g1)) : WW M G 4 (RQ M G none g1 0 0) 0 0 g 0 [(0, .ref p)] [] := by
  unfold x9_payLogs at E
  refine r_iconst X (v := 2) dX9_payLogs_0 (by decide) ?_
  refine r_aload_n X 0 dX9_payLogs_1 rfl rfl ?_
  obtain ⟨x1, e2, E⟩ := gb_some E
  refine r_getR X dX9_payLogs_2 f_X9_7 e2 ?_
  refine r_iconst X (v := 5) dX9_payLogs_5 (by decide) ?_
  obtain ⟨x3, e4, E⟩ := gb_some E
  refine r_iald X dX9_payLogs_6 e4 ?_
  refine r_imul X dX9_payLogs_7 ?_
  refine r_istore_n X 1 (L1 := [(1, .int (2 * x3)), (0, .ref p)]) dX9_payLogs_8 rfl (by decide) rfl ?_
  refine r_iconst X (v := 0) dX9_payLogs_9 (by decide) ?_
  refine r_istore_n X 2 (L1 := [(2, .int 0), (1, .int (2 * x3)), (0, .ref p)]) dX9_payLogs_10 rfl (by decide) rfl ?_
  obtain ⟨t5, g6, e7, E⟩ := cb_some E
  refine r_pick (by rfl : lpick [(2, .int 0), (1, .int (2 * x3)), (0, .ref p)] [2, 1, 0] = _) (t_x9_payLogs_l11_r X hl0 hr hnm _ _ _ _ _ e7 ?_)
  refine r_aload_n X 0 dX9_payLogs_73 rfl rfl ?_
  obtain ⟨x8, e9, E⟩ := gb_some E
  refine r_getR X dX9_payLogs_74 f_X9_7 e9 ?_
  refine r_iconst X (v := 5) dX9_payLogs_77 (by decide) ?_
  refine r_iconst X (v := 0) dX9_payLogs_78 (by decide) ?_
  obtain ⟨g10, e11, E⟩ := gb_some E
  refine r_iast X dX9_payLogs_79 e11 ?_
  cases E
  exact r_vret X hr dX9_payLogs_80 (by decide) (by decide)
theorem t_x9_payLogs {l : Launch} {G : GG} {p : Nat} {g : AH} {r : Unit} {g1 : AH} (E : x9_payLogs p g = some (r, g1)) : Ct l G yX9_payLogs cX9_payLogs 4 none ⟨4, 0, 0, 173⟩ [.ref p] g none g1 :=
  ct_of (L0 := [(0, .ref p)]) y_X9_payLogs rfl (Nat.le_of_ble_eq_true rfl) fun M hl0 X hr hnm => t_x9_payLogs_b X hl0 hr hnm E
set_option maxHeartbeats 4000000 in
set_option maxRecDepth 100000 in
theorem t_x9_countWithout_j31_4 {l : Launch} {G : GG} {M : MC} (X : CX M G cX9_countWithout 3 RX9 ⟨2, 0, 0, 82⟩) (hl0 : M.2.1 = l) (hr : (mM M).sig.returnType = (some .int)) (hnm : (mM M).name = yX9_countWithout.name) {Q : State → Prop} {kc ks : Nat} {s9 : ((Int32 × Int32) ⊕ (Int32))} {g1 : AH} {a0 : Nat} {a2 : Int32} {s0 : Int32} {s1 : Int32} (hc : ∀ s1, s9 = .inl s1 → WW M G 3 Q kc ks g1 4 [(0, .ref a0), (1, .int s1.1), (2, .int s1.2)] []) (hx : ∀ t, s9 = .inr t → WW M G 3 Q kc ks g1 39 [(1, .int t)] []) {g : AH} (E : x9_countWithout_j31_4 a0 a2 s0 s1 g = some (s9, g1)) : WW M G 3 Q kc ks g 31 [(0, .ref a0), (2, .int a2)] [.int s0, .int s1] := by
  unfold x9_countWithout_j31_4 at E
  refine r_iadd X dX9_countWithout_31 ?_
  refine r_istore_n X 1 (L1 := [(1, .int (s1 + s0)), (0, .ref a0), (2, .int a2)]) dX9_countWithout_32 rfl (by decide) rfl ?_
  refine r_iinc X (v := (a2 + 1)) (L1 := [(2, .int (a2 + 1)), (1, .int (s1 + s0)), (0, .ref a0)]) dX9_countWithout_33 rfl rfl (by decide) rfl ?_
  refine r_goto X 4 dX9_countWithout_36 (by decide) ?_
  cases E
  exact r_pick (by rfl : lpick [(2, .int (a2 + 1)), (1, .int (s1 + s0)), (0, .ref a0)] [2, 1, 0] = _) (hc _ rfl)
set_option maxHeartbeats 4000000 in
set_option maxRecDepth 100000 in
theorem t_x9_countWithout_l4 {l : Launch} {G : GG} {M : MC} (X : CX M G cX9_countWithout 3 RX9 ⟨2, 0, 0, 82⟩) (hl0 : M.2.1 = l) (hr : (mM M).sig.returnType = (some .int)) (hnm : (mM M).name = yX9_countWithout.name) {Q : State → Prop} {kc ks : Nat} {s9 : ((Int32 × Int32) ⊕ (Int32))} {g1 : AH} {a0 : Nat} {s0 : Int32 × Int32} (hc : ∀ s1, s9 = .inl s1 → WW M G 3 Q kc ks g1 4 [(0, .ref a0), (1, .int s1.1), (2, .int s1.2)] []) (hx : ∀ t, s9 = .inr t → WW M G 3 Q kc ks g1 39 [(1, .int t)] []) {g : AH} (E : x9_countWithout_l4 a0 s0 g = some (s9, g1)) : WW M G 3 Q kc ks g 4 [(0, .ref a0), (1, .int s0.1), (2, .int s0.2)] [] := by
  unfold x9_countWithout_l4 at E
  refine r_iload_n X 2 dX9_countWithout_4 rfl rfl ?_
  refine r_aload_n X 0 dX9_countWithout_5 rfl rfl ?_
  obtain ⟨x1, e2, E⟩ := gb_some E
  refine r_getR X dX9_countWithout_6 f_X9_7 e2 ?_
  refine r_bipush X (v := 12) dX9_countWithout_9 (by decide) ?_
  obtain ⟨x3, e4, E⟩ := gb_some E
  refine r_iald X dX9_countWithout_11 e4 ?_
  refine r_icmp_ge X 39 dX9_countWithout_12 (by decide) (fun c5 => ?_) (fun c5 => ?_)
  · rw [if_pos c5] at E
    cases E
    exact r_pick (by rfl : lpick [(0, .ref a0), (1, .int s0.1), (2, .int s0.2)] [1] = _) (hx _ rfl)
  · rw [if_neg c5] at E
    refine r_iload_n X 1 dX9_countWithout_15 rfl rfl ?_
    refine r_aload_n X 0 dX9_countWithout_16 rfl rfl ?_
    refine r_iload_n X 2 dX9_countWithout_17 rfl rfl ?_
    refine r_iconst X (v := 5) dX9_countWithout_18 (by decide) ?_
    obtain ⟨u9, e10, E⟩ := gb_some E
    obtain ⟨r6, g7, e8, E⟩ := cb_some E
    refine r_callV0 X hl0 (ci := 9) dX9_countWithout_19 y_X9_get m_X9_64 rfl rfl e10 (t_x9_get (l := l) (G := G) e8) rfl rfl (Nat.le_of_ble_eq_true rfl) (by decide) ?_
    refine r_iconst X (v := (-1)) dX9_countWithout_22 (by decide) ?_
    refine r_icmp_ne X 30 dX9_countWithout_23 (by decide) (fun c11 => ?_) (fun c11 => ?_)
    · rw [if_neg c11] at E
      refine r_iconst X (v := 0) dX9_countWithout_30 (by decide) ?_
      exact r_pick (by rfl : lpick [(0, .ref a0), (1, .int s0.1), (2, .int s0.2)] [0, 2] = _) (t_x9_countWithout_j31_4 X hl0 hr hnm hc hx E)
    · rw [if_pos c11] at E
      refine r_iconst X (v := 1) dX9_countWithout_26 (by decide) ?_
      refine r_goto X 31 dX9_countWithout_27 (by decide) ?_
      exact r_pick (by rfl : lpick [(0, .ref a0), (1, .int s0.1), (2, .int s0.2)] [0, 2] = _) (t_x9_countWithout_j31_4 X hl0 hr hnm hc hx E)
set_option maxHeartbeats 4000000 in
theorem t_x9_countWithout_l4_r {l : Launch} {G : GG} {M : MC} (X : CX M G cX9_countWithout 3 RX9 ⟨2, 0, 0, 82⟩) (hl0 : M.2.1 = l) (hr : (mM M).sig.returnType = (some .int)) (hnm : (mM M).name = yX9_countWithout.name) {Q : State → Prop} {kc ks : Nat} {a0 : Nat} : ∀ (n : Nat) (s0 : Int32 × Int32) (g : AH) (t : (Int32)) (g1 : AH), loopX (x9_countWithout_l4 a0) n s0 g = some (t, g1) → WW M G 3 Q kc ks g1 39 [(1, .int t)] [] → WW M G 3 Q kc ks g 4 [(0, .ref a0), (1, .int s0.1), (2, .int s0.2)] [] :=
  loop_cps (K := fun t g1 => WW M G 3 Q kc ks g1 39 [(1, .int t)] []) (fun _ s0 g => WW M G 3 Q kc ks g 4 [(0, .ref a0), (1, .int s0.1), (2, .int s0.2)] []) (fun n s0 g st g1 E hc hx => t_x9_countWithout_l4 X hl0 hr hnm hc hx E)
set_option maxHeartbeats 4000000 in
set_option maxRecDepth 100000 in
theorem t_x9_countWithout_b {l : Launch} {G : GG} {M : MC} (X : CX M G cX9_countWithout 3 RX9 ⟨2, 0, 0, 82⟩) (hl0 : M.2.1 = l) (hr : (mM M).sig.returnType = (some .int)) (hnm : (mM M).name = yX9_countWithout.name) {p : Nat} {g : AH} {r : Int32} {g1 : AH} (E : x9_countWithout p g = some (r, g1)) : WW M G 3 (RQ M G (some (.int r)) g1 0 0) 0 0 g 0 [(0, .ref p)] [] := by
  unfold x9_countWithout at E
  refine r_iconst X (v := 0) dX9_countWithout_0 (by decide) ?_
  refine r_istore_n X 1 (L1 := [(1, .int 0), (0, .ref p)]) dX9_countWithout_1 rfl (by decide) rfl ?_
  refine r_iconst X (v := 0) dX9_countWithout_2 (by decide) ?_
  refine r_istore_n X 2 (L1 := [(2, .int 0), (1, .int 0), (0, .ref p)]) dX9_countWithout_3 rfl (by decide) rfl ?_
  obtain ⟨t1, g2, e3, E⟩ := cb_some E
  refine r_pick (by rfl : lpick [(2, .int 0), (1, .int 0), (0, .ref p)] [2, 1, 0] = _) (t_x9_countWithout_l4_r X hl0 hr hnm _ _ _ _ _ e3 ?_)
  refine r_iload_n X 1 dX9_countWithout_39 rfl rfl ?_
  cases E
  exact r_iret X hr dX9_countWithout_40 (by decide) (by decide)
theorem t_x9_countWithout {l : Launch} {G : GG} {p : Nat} {g : AH} {r : Int32} {g1 : AH} (E : x9_countWithout p g = some (r, g1)) : Ct l G yX9_countWithout cX9_countWithout 3 (some .int) ⟨2, 0, 0, 82⟩ [.ref p] g (some (.int r)) g1 :=
  ct_of (L0 := [(0, .ref p)]) y_X9_countWithout rfl (Nat.le_of_ble_eq_true rfl) fun M hl0 X hr hnm => t_x9_countWithout_b X hl0 hr hnm E
set_option maxHeartbeats 4000000 in
set_option maxRecDepth 100000 in
theorem t_x9_share_j52_20 {l : Launch} {G : GG} {M : MC} (X : CX M G cX9_share 5 RX9 ⟨3, 0, 0, 106⟩) (hl0 : M.2.1 = l) (hr : (mM M).sig.returnType = none) (hnm : (mM M).name = yX9_share.name) {Q : State → Prop} {kc ks : Nat} {s9 : ((Int32) ⊕ (Unit))} {g1 : AH} {a0 : Nat} {a1 : Int32} {a2 : Int32} {a3 : Int32} {a4 : Int32} {s0 : Int32} {s1 : Int32} {s2 : Int32} {s3 : Nat} (hc : ∀ s1, s9 = .inl s1 → WW M G 5 Q kc ks g1 20 [(0, .ref a0), (1, .int a1), (2, .int a2), (3, .int a3), (4, .int s1)] []) (hx : ∀ t, s9 = .inr t → WW M G 5 Q kc ks g1 61 [(0, .ref a0), (1, .int a1), (2, .int a2), (3, .int a3)] []) {g : AH} (E : x9_share_j52_20 a0 a1 a2 a3 a4 s0 s1 s2 s3 g = some (s9, g1)) : WW M G 5 Q kc ks g 52 [(0, .ref a0), (1, .int a1), (2, .int a2), (3, .int a3), (4, .int a4)] [.int s0, .int s1, .int s2, .ref s3] := by
  unfold x9_share_j52_20 at E
  obtain ⟨u4, e5, E⟩ := gb_some E
  obtain ⟨r1, g2, e3, E⟩ := cb_some E
  refine r_callV0 X hl0 (ci := 9) dX9_share_52 y_X9_increase m_X9_113 rfl rfl e5 (t_x9_increase (l := l) (G := G) e3) rfl rfl (Nat.le_of_ble_eq_true rfl) (by decide) ?_
  refine r_iinc X (v := (a4 + 1)) (L1 := [(4, .int (a4 + 1)), (0, .ref a0), (1, .int a1), (2, .int a2), (3, .int a3)]) dX9_share_55 rfl rfl (by decide) rfl ?_
  refine r_goto X 20 dX9_share_58 (by decide) ?_
  cases E
  exact r_pick (by rfl : lpick [(4, .int (a4 + 1)), (0, .ref a0), (1, .int a1), (2, .int a2), (3, .int a3)] [1, 2, 3, 4, 0] = _) (hc _ rfl)
set_option maxHeartbeats 4000000 in
set_option maxRecDepth 100000 in
theorem t_x9_share_l20 {l : Launch} {G : GG} {M : MC} (X : CX M G cX9_share 5 RX9 ⟨3, 0, 0, 106⟩) (hl0 : M.2.1 = l) (hr : (mM M).sig.returnType = none) (hnm : (mM M).name = yX9_share.name) {Q : State → Prop} {kc ks : Nat} {s9 : ((Int32) ⊕ (Unit))} {g1 : AH} {a0 : Nat} {a1 : Int32} {a2 : Int32} {a3 : Int32} {s0 : Int32} (hc : ∀ s1, s9 = .inl s1 → WW M G 5 Q kc ks g1 20 [(0, .ref a0), (1, .int a1), (2, .int a2), (3, .int a3), (4, .int s1)] []) (hx : ∀ t, s9 = .inr t → WW M G 5 Q kc ks g1 61 [(0, .ref a0), (1, .int a1), (2, .int a2), (3, .int a3)] []) {g : AH} (E : x9_share_l20 a0 a1 a2 a3 s0 g = some (s9, g1)) : WW M G 5 Q kc ks g 20 [(0, .ref a0), (1, .int a1), (2, .int a2), (3, .int a3), (4, .int s0)] [] := by
  unfold x9_share_l20 at E
  refine r_iload X dX9_share_20 rfl ?_
  refine r_aload_n X 0 dX9_share_22 rfl rfl ?_
  obtain ⟨x1, e2, E⟩ := gb_some E
  refine r_getR X dX9_share_23 f_X9_7 e2 ?_
  refine r_bipush X (v := 12) dX9_share_26 (by decide) ?_
  obtain ⟨x3, e4, E⟩ := gb_some E
  refine r_iald X dX9_share_28 e4 ?_
  refine r_icmp_ge X 61 dX9_share_29 (by decide) (fun c5 => ?_) (fun c5 => ?_)
  · rw [if_pos c5] at E
    cases E
    exact r_pick (by rfl : lpick [(0, .ref a0), (1, .int a1), (2, .int a2), (3, .int a3), (4, .int s0)] [0, 1, 2, 3] = _) (hx _ rfl)
  · rw [if_neg c5] at E
    refine r_aload_n X 0 dX9_share_32 rfl rfl ?_
    refine r_iload X dX9_share_33 rfl ?_
    refine r_iconst X (v := 2) dX9_share_35 (by decide) ?_
    refine r_aload_n X 0 dX9_share_36 rfl rfl ?_
    refine r_iload X dX9_share_37 rfl ?_
    refine r_iconst X (v := 5) dX9_share_39 (by decide) ?_
    obtain ⟨u9, e10, E⟩ := gb_some E
    obtain ⟨r6, g7, e8, E⟩ := cb_some E
    refine r_callV0 X hl0 (ci := 9) dX9_share_40 y_X9_get m_X9_64 rfl rfl e10 (t_x9_get (l := l) (G := G) e8) rfl rfl (Nat.le_of_ble_eq_true rfl) (by decide) ?_
    refine r_iconst X (v := (-1)) dX9_share_43 (by decide) ?_
    refine r_icmp_ne X 51 dX9_share_44 (by decide) (fun c11 => ?_) (fun c11 => ?_)
    · rw [if_neg c11] at E
      refine r_iconst X (v := 0) dX9_share_51 (by decide) ?_
      exact r_pick (by rfl : lpick [(0, .ref a0), (1, .int a1), (2, .int a2), (3, .int a3), (4, .int s0)] [0, 1, 2, 3, 4] = _) (t_x9_share_j52_20 X hl0 hr hnm hc hx E)
    · rw [if_pos c11] at E
      refine r_iload_n X 3 dX9_share_47 rfl rfl ?_
      refine r_goto X 52 dX9_share_48 (by decide) ?_
      exact r_pick (by rfl : lpick [(0, .ref a0), (1, .int a1), (2, .int a2), (3, .int a3), (4, .int s0)] [0, 1, 2, 3, 4] = _) (t_x9_share_j52_20 X hl0 hr hnm hc hx E)
set_option maxHeartbeats 4000000 in
theorem t_x9_share_l20_r {l : Launch} {G : GG} {M : MC} (X : CX M G cX9_share 5 RX9 ⟨3, 0, 0, 106⟩) (hl0 : M.2.1 = l) (hr : (mM M).sig.returnType = none) (hnm : (mM M).name = yX9_share.name) {Q : State → Prop} {kc ks : Nat} {a0 : Nat} {a1 : Int32} {a2 : Int32} {a3 : Int32} : ∀ (n : Nat) (s0 : Int32) (g : AH) (t : (Unit)) (g1 : AH), loopX (x9_share_l20 a0 a1 a2 a3) n s0 g = some (t, g1) → WW M G 5 Q kc ks g1 61 [(0, .ref a0), (1, .int a1), (2, .int a2), (3, .int a3)] [] → WW M G 5 Q kc ks g 20 [(0, .ref a0), (1, .int a1), (2, .int a2), (3, .int a3), (4, .int s0)] [] :=
  loop_cps (K := fun t g1 => WW M G 5 Q kc ks g1 61 [(0, .ref a0), (1, .int a1), (2, .int a2), (3, .int a3)] []) (fun _ s0 g => WW M G 5 Q kc ks g 20 [(0, .ref a0), (1, .int a1), (2, .int a2), (3, .int a3), (4, .int s0)] []) (fun n s0 g st g1 E hc hx => t_x9_share_l20 X hl0 hr hnm hc hx E)
set_option maxHeartbeats 4000000 in
set_option maxRecDepth 100000 in
theorem t_x9_share_j16 {l : Launch} {G : GG} {M : MC} (X : CX M G cX9_share 5 RX9 ⟨3, 0, 0, 106⟩) (hl0 : M.2.1 = l) (hr : (mM M).sig.returnType = none) (hnm : (mM M).name = yX9_share.name) {a0 : Nat} {a1 : Int32} {a2 : Int32} {s0 : Int32} {g : AH} {r : Unit} {g1 : AH} (E : x9_share_j16 a0 a1 a2 s0 g = some (r, g1)) : WW M G 5 (RQ M G none g1 0 0) 0 0 g 16 [(0, .ref a0), (1, .int a1), (2, .int a2)] [.int s0] := by
  unfold x9_share_j16 at E
  refine r_istore_n X 3 (L1 := [(3, .int s0), (0, .ref a0), (1, .int a1), (2, .int a2)]) dX9_share_16 rfl (by decide) rfl ?_
  refine r_iconst X (v := 0) dX9_share_17 (by decide) ?_
  refine r_istore X (L1 := [(4, .int 0), (3, .int s0), (0, .ref a0), (1, .int a1), (2, .int a2)]) dX9_share_18 (by decide) rfl ?_
  obtain ⟨t1, g2, e3, E⟩ := cb_some E
  refine r_pick (by rfl : lpick [(4, .int 0), (3, .int s0), (0, .ref a0), (1, .int a1), (2, .int a2)] [2, 3, 4, 1, 0] = _) (t_x9_share_l20_r X hl0 hr hnm _ _ _ _ _ e3 ?_)
  refine r_aload_n X 0 dX9_share_61 rfl rfl ?_
  obtain ⟨x4, e5, E⟩ := gb_some E
  refine r_getR X dX9_share_62 f_X9_7 e5 ?_
  refine r_bipush X (v := 6) dX9_share_65 (by decide) ?_
  refine r_dup2 X dX9_share_67 rfl rfl ?_
  obtain ⟨x6, e7, E⟩ := gb_some E
  refine r_iald X dX9_share_68 e7 ?_
  refine r_iload_n X 1 dX9_share_69 rfl rfl ?_
  refine r_iload_n X 3 dX9_share_70 rfl rfl ?_
  refine r_iload_n X 2 dX9_share_71 rfl rfl ?_
  refine r_imul X dX9_share_72 ?_
  refine r_isub X dX9_share_73 ?_
  refine r_iadd X dX9_share_74 ?_
  obtain ⟨g8, e9, E⟩ := gb_some E
  refine r_iast X dX9_share_75 e9 ?_
  cases E
  exact r_vret X hr dX9_share_76 (by decide) (by decide)
set_option maxHeartbeats 4000000 in
set_option maxRecDepth 100000 in
theorem t_x9_share_b {l : Launch} {G : GG} {M : MC} (X : CX M G cX9_share 5 RX9 ⟨3, 0, 0, 106⟩) (hl0 : M.2.1 = l) (hr : (mM M).sig.returnType = none) (hnm : (mM M).name = yX9_share.name) {p : Nat} {b0 : Int32} {g : AH} {r : Unit} {g1 : AH} (E : x9_share p b0 g = some (r, g1)) : WW M G 5 (RQ M G none g1 0 0) 0 0 g 0 [(0, .ref p), (1, .int b0)] [] := by
  unfold x9_share at E
  refine r_aload_n X 0 dX9_share_0 rfl rfl ?_
  obtain ⟨u4, e5, E⟩ := gb_some E
  obtain ⟨r1, g2, e3, E⟩ := cb_some E
  refine r_callV0 X hl0 (ci := 9) dX9_share_1 y_X9_countWithout m_X9_119 rfl rfl e5 (t_x9_countWithout (l := l) (G := G) e3) rfl rfl (Nat.le_of_ble_eq_true rfl) (by decide) ?_
  refine r_istore_n X 2 (L1 := [(2, .int r1), (0, .ref p), (1, .int b0)]) dX9_share_4 rfl (by decide) rfl ?_
  refine r_iload_n X 2 dX9_share_5 rfl rfl ?_
  refine r_if_ne X 13 dX9_share_6 (by decide) (fun c6 => ?_) (fun c6 => ?_)
  · rw [if_neg c6] at E
    refine r_iload_n X 1 dX9_share_13 rfl rfl ?_
    refine r_iload_n X 2 dX9_share_14 rfl rfl ?_
    by_cases c7 : r1 = 0
    · rw [if_pos c7] at E; cases E
    rw [if_neg c7] at E
    refine r_idiv X dX9_share_15 c7 ?_
    exact r_pick (by rfl : lpick [(2, .int r1), (0, .ref p), (1, .int b0)] [1, 2, 0] = _) (t_x9_share_j16 X hl0 hr hnm E)
  · rw [if_pos c6] at E
    refine r_iconst X (v := 0) dX9_share_9 (by decide) ?_
    refine r_goto X 16 dX9_share_10 (by decide) ?_
    exact r_pick (by rfl : lpick [(2, .int r1), (0, .ref p), (1, .int b0)] [1, 2, 0] = _) (t_x9_share_j16 X hl0 hr hnm E)
theorem t_x9_share {l : Launch} {G : GG} {p : Nat} {b0 : Int32} {g : AH} {r : Unit} {g1 : AH} (E : x9_share p b0 g = some (r, g1)) : Ct l G yX9_share cX9_share 5 none ⟨3, 0, 0, 106⟩ [.ref p, .int b0] g none g1 :=
  ct_of (L0 := [(0, .ref p), (1, .int b0)]) y_X9_share rfl (Nat.le_of_ble_eq_true rfl) fun M hl0 X hr hnm => t_x9_share_b X hl0 hr hnm E
set_option maxHeartbeats 4000000 in
set_option maxRecDepth 100000 in
theorem t_x9_dawn_l2 {l : Launch} {G : GG} {M : MC} (X : CX M G cX9_dawn 3 RX9 ⟨5, 0, 0, 196⟩) (hl0 : M.2.1 = l) (hr : (mM M).sig.returnType = none) (hnm : (mM M).name = yX9_dawn.name) {Q : State → Prop} {kc ks : Nat} {s9 : ((Int32) ⊕ (Unit))} {g1 : AH} {a0 : Nat} {s0 : Int32} (hc : ∀ s1, s9 = .inl s1 → WW M G 3 Q kc ks g1 2 [(0, .ref a0), (1, .int s1)] []) (hx : ∀ t, s9 = .inr t → WW M G 3 Q kc ks g1 42 [(0, .ref a0)] []) {g : AH} (E : x9_dawn_l2 a0 s0 g = some (s9, g1)) : WW M G 3 Q kc ks g 2 [(0, .ref a0), (1, .int s0)] [] := by
  unfold x9_dawn_l2 at E
  refine r_iload_n X 1 dX9_dawn_2 rfl rfl ?_
  refine r_aload_n X 0 dX9_dawn_3 rfl rfl ?_
  obtain ⟨x1, e2, E⟩ := gb_some E
  refine r_getR X dX9_dawn_4 f_X9_7 e2 ?_
  refine r_bipush X (v := 12) dX9_dawn_7 (by decide) ?_
  obtain ⟨x3, e4, E⟩ := gb_some E
  refine r_iald X dX9_dawn_9 e4 ?_
  refine r_icmp_ge X 42 dX9_dawn_10 (by decide) (fun c5 => ?_) (fun c5 => ?_)
  · rw [if_pos c5] at E
    cases E
    exact r_pick (by rfl : lpick [(0, .ref a0), (1, .int s0)] [0] = _) (hx _ rfl)
  · rw [if_neg c5] at E
    refine r_aload_n X 0 dX9_dawn_13 rfl rfl ?_
    obtain ⟨x6, e7, E⟩ := gb_some E
    refine r_getR X dX9_dawn_14 f_X9_26 e7 ?_
    refine r_iload_n X 1 dX9_dawn_17 rfl rfl ?_
    refine r_iconst X (v := 0) dX9_dawn_18 (by decide) ?_
    obtain ⟨g8, e9, E⟩ := gb_some E
    refine r_iast X dX9_dawn_19 e9 ?_
    refine r_aload_n X 0 dX9_dawn_20 rfl rfl ?_
    obtain ⟨x10, e11, E⟩ := gb_some E
    refine r_getR X dX9_dawn_21 f_X9_7 e11 ?_
    refine r_bipush X (v := 6) dX9_dawn_24 (by decide) ?_
    refine r_dup2 X dX9_dawn_26 rfl rfl ?_
    obtain ⟨x12, e13, E⟩ := gb_some E
    refine r_iald X dX9_dawn_27 e13 ?_
    refine r_aload_n X 0 dX9_dawn_28 rfl rfl ?_
    refine r_iload_n X 1 dX9_dawn_29 rfl rfl ?_
    refine r_iconst X (v := 3) dX9_dawn_30 (by decide) ?_
    obtain ⟨u17, e18, E⟩ := gb_some E
    obtain ⟨r14, g15, e16, E⟩ := cb_some E
    refine r_callV0 X hl0 (ci := 9) dX9_dawn_31 y_X9_pay m_X9_116 rfl rfl e18 (t_x9_pay (l := l) (G := G) e16) rfl rfl (Nat.le_of_ble_eq_true rfl) (by decide) ?_
    refine r_iadd X dX9_dawn_34 ?_
    obtain ⟨g19, e20, E⟩ := gb_some E
    refine r_iast X dX9_dawn_35 e20 ?_
    refine r_iinc X (v := (s0 + 1)) (L1 := [(1, .int (s0 + 1)), (0, .ref a0)]) dX9_dawn_36 rfl rfl (by decide) rfl ?_
    refine r_goto X 2 dX9_dawn_39 (by decide) ?_
    cases E
    exact r_pick (by rfl : lpick [(1, .int (s0 + 1)), (0, .ref a0)] [1, 0] = _) (hc _ rfl)
set_option maxHeartbeats 4000000 in
theorem t_x9_dawn_l2_r {l : Launch} {G : GG} {M : MC} (X : CX M G cX9_dawn 3 RX9 ⟨5, 0, 0, 196⟩) (hl0 : M.2.1 = l) (hr : (mM M).sig.returnType = none) (hnm : (mM M).name = yX9_dawn.name) {Q : State → Prop} {kc ks : Nat} {a0 : Nat} : ∀ (n : Nat) (s0 : Int32) (g : AH) (t : (Unit)) (g1 : AH), loopX (x9_dawn_l2 a0) n s0 g = some (t, g1) → WW M G 3 Q kc ks g1 42 [(0, .ref a0)] [] → WW M G 3 Q kc ks g 2 [(0, .ref a0), (1, .int s0)] [] :=
  loop_cps (K := fun t g1 => WW M G 3 Q kc ks g1 42 [(0, .ref a0)] []) (fun _ s0 g => WW M G 3 Q kc ks g 2 [(0, .ref a0), (1, .int s0)] []) (fun n s0 g st g1 E hc hx => t_x9_dawn_l2 X hl0 hr hnm hc hx E)
set_option maxHeartbeats 4000000 in
set_option maxRecDepth 100000 in
theorem t_x9_dawn_l50 {l : Launch} {G : GG} {M : MC} (X : CX M G cX9_dawn 3 RX9 ⟨5, 0, 0, 196⟩) (hl0 : M.2.1 = l) (hr : (mM M).sig.returnType = none) (hnm : (mM M).name = yX9_dawn.name) {Q : State → Prop} {kc ks : Nat} {s9 : ((Int32 × Int32) ⊕ (Int32))} {g1 : AH} {a0 : Nat} {s0 : Int32 × Int32} (hc : ∀ s1, s9 = .inl s1 → WW M G 3 Q kc ks g1 50 [(0, .ref a0), (1, .int s1.1), (2, .int s1.2)] []) (hx : ∀ t, s9 = .inr t → WW M G 3 Q kc ks g1 84 [(0, .ref a0), (1, .int t)] []) {g : AH} (E : x9_dawn_l50 a0 s0 g = some (s9, g1)) : WW M G 3 Q kc ks g 50 [(0, .ref a0), (1, .int s0.1), (2, .int s0.2)] [] := by
  unfold x9_dawn_l50 at E
  refine r_iload_n X 2 dX9_dawn_50 rfl rfl ?_
  refine r_aload_n X 0 dX9_dawn_51 rfl rfl ?_
  obtain ⟨x1, e2, E⟩ := gb_some E
  refine r_getR X dX9_dawn_52 f_X9_7 e2 ?_
  refine r_bipush X (v := 12) dX9_dawn_55 (by decide) ?_
  obtain ⟨x3, e4, E⟩ := gb_some E
  refine r_iald X dX9_dawn_57 e4 ?_
  refine r_icmp_ge X 84 dX9_dawn_58 (by decide) (fun c5 => ?_) (fun c5 => ?_)
  · rw [if_pos c5] at E
    cases E
    exact r_pick (by rfl : lpick [(0, .ref a0), (1, .int s0.1), (2, .int s0.2)] [0, 1] = _) (hx _ rfl)
  · rw [if_neg c5] at E
    refine r_iload_n X 1 dX9_dawn_61 rfl rfl ?_
    refine r_aload_n X 0 dX9_dawn_62 rfl rfl ?_
    refine r_iload_n X 2 dX9_dawn_63 rfl rfl ?_
    refine r_aload_n X 0 dX9_dawn_64 rfl rfl ?_
    refine r_iload_n X 2 dX9_dawn_65 rfl rfl ?_
    obtain ⟨u9, e10, E⟩ := gb_some E
    obtain ⟨r6, g7, e8, E⟩ := cb_some E
    refine r_callV0 X hl0 (ci := 9) dX9_dawn_66 y_X9_thicknessFor m_X9_90 rfl rfl e10 (t_x9_thicknessFor (l := l) (G := G) e8) rfl rfl (Nat.le_of_ble_eq_true rfl) (by decide) ?_
    refine r_iconst X (v := 2) dX9_dawn_69 (by decide) ?_
    refine r_iadd X dX9_dawn_70 ?_
    refine r_iconst X (v := 3) dX9_dawn_71 (by decide) ?_
    refine r_idiv X dX9_dawn_72 (by decide) ?_
    obtain ⟨u15, e16, E⟩ := gb_some E
    obtain ⟨r12, g13, e14, E⟩ := cb_some E
    refine r_callV0 X hl0 (ci := 9) dX9_dawn_73 y_X9_pay m_X9_116 rfl rfl e16 (t_x9_pay (l := l) (G := G) e14) rfl rfl (Nat.le_of_ble_eq_true rfl) (by decide) ?_
    refine r_iadd X dX9_dawn_76 ?_
    refine r_istore_n X 1 (L1 := [(1, .int (s0.1 + r12)), (0, .ref a0), (2, .int s0.2)]) dX9_dawn_77 rfl (by decide) rfl ?_
    refine r_iinc X (v := (s0.2 + 1)) (L1 := [(2, .int (s0.2 + 1)), (1, .int (s0.1 + r12)), (0, .ref a0)]) dX9_dawn_78 rfl rfl (by decide) rfl ?_
    refine r_goto X 50 dX9_dawn_81 (by decide) ?_
    cases E
    exact r_pick (by rfl : lpick [(2, .int (s0.2 + 1)), (1, .int (s0.1 + r12)), (0, .ref a0)] [2, 1, 0] = _) (hc _ rfl)
set_option maxHeartbeats 4000000 in
theorem t_x9_dawn_l50_r {l : Launch} {G : GG} {M : MC} (X : CX M G cX9_dawn 3 RX9 ⟨5, 0, 0, 196⟩) (hl0 : M.2.1 = l) (hr : (mM M).sig.returnType = none) (hnm : (mM M).name = yX9_dawn.name) {Q : State → Prop} {kc ks : Nat} {a0 : Nat} : ∀ (n : Nat) (s0 : Int32 × Int32) (g : AH) (t : (Int32)) (g1 : AH), loopX (x9_dawn_l50 a0) n s0 g = some (t, g1) → WW M G 3 Q kc ks g1 84 [(0, .ref a0), (1, .int t)] [] → WW M G 3 Q kc ks g 50 [(0, .ref a0), (1, .int s0.1), (2, .int s0.2)] [] :=
  loop_cps (K := fun t g1 => WW M G 3 Q kc ks g1 84 [(0, .ref a0), (1, .int t)] []) (fun _ s0 g => WW M G 3 Q kc ks g 50 [(0, .ref a0), (1, .int s0.1), (2, .int s0.2)] []) (fun n s0 g st g1 E hc hx => t_x9_dawn_l50 X hl0 hr hnm hc hx E)
set_option maxHeartbeats 4000000 in
set_option maxRecDepth 100000 in
theorem t_x9_dawn_b {l : Launch} {G : GG} {M : MC} (X : CX M G cX9_dawn 3 RX9 ⟨5, 0, 0, 196⟩) (hl0 : M.2.1 = l) (hr : (mM M).sig.returnType = none) (hnm : (mM M).name = yX9_dawn.name) {p : Nat} {g : AH} {r : Unit} {g1 : AH} (E : x9_dawn p g = some (r, g1)) : WW M G 3 (RQ M G none g1 0 0) 0 0 g 0 [(0, .ref p)] [] := by
  unfold x9_dawn at E
  refine r_iconst X (v := 0) dX9_dawn_0 (by decide) ?_
  refine r_istore_n X 1 (L1 := [(1, .int 0), (0, .ref p)]) dX9_dawn_1 rfl (by decide) rfl ?_
  obtain ⟨t1, g2, e3, E⟩ := cb_some E
  refine r_pick (by rfl : lpick [(1, .int 0), (0, .ref p)] [1, 0] = _) (t_x9_dawn_l2_r X hl0 hr hnm _ _ _ _ _ e3 ?_)
  refine r_aload_n X 0 dX9_dawn_42 rfl rfl ?_
  obtain ⟨u7, e8, E⟩ := gb_some E
  obtain ⟨r4, g5, e6, E⟩ := cb_some E
  refine r_callV0 X hl0 (ci := 9) dX9_dawn_43 y_X9_payLogs m_X9_122 rfl rfl e8 (t_x9_payLogs (l := l) (G := G) e6) rfl rfl (Nat.le_of_ble_eq_true rfl) (by decide) ?_
  refine r_iconst X (v := 0) dX9_dawn_46 (by decide) ?_
  refine r_istore_n X 1 (L1 := [(1, .int 0), (0, .ref p)]) dX9_dawn_47 rfl (by decide) rfl ?_
  refine r_iconst X (v := 0) dX9_dawn_48 (by decide) ?_
  refine r_istore_n X 2 (L1 := [(2, .int 0), (1, .int 0), (0, .ref p)]) dX9_dawn_49 rfl (by decide) rfl ?_
  obtain ⟨t9, g10, e11, E⟩ := cb_some E
  refine r_pick (by rfl : lpick [(2, .int 0), (1, .int 0), (0, .ref p)] [2, 1, 0] = _) (t_x9_dawn_l50_r X hl0 hr hnm _ _ _ _ _ e11 ?_)
  refine r_aload_n X 0 dX9_dawn_84 rfl rfl ?_
  refine r_iload_n X 1 dX9_dawn_85 rfl rfl ?_
  obtain ⟨u15, e16, E⟩ := gb_some E
  obtain ⟨r12, g13, e14, E⟩ := cb_some E
  refine r_callV0 X hl0 (ci := 9) dX9_dawn_86 y_X9_share m_X9_125 rfl rfl e16 (t_x9_share (l := l) (G := G) e14) rfl rfl (Nat.le_of_ble_eq_true rfl) (by decide) ?_
  cases E
  exact r_vret X hr dX9_dawn_89 (by decide) (by decide)
theorem t_x9_dawn {l : Launch} {G : GG} {p : Nat} {g : AH} {r : Unit} {g1 : AH} (E : x9_dawn p g = some (r, g1)) : Ct l G yX9_dawn cX9_dawn 3 none ⟨5, 0, 0, 196⟩ [.ref p] g none g1 :=
  ct_of (L0 := [(0, .ref p)]) y_X9_dawn rfl (Nat.le_of_ble_eq_true rfl) fun M hl0 X hr hnm => t_x9_dawn_b X hl0 hr hnm E
set_option maxHeartbeats 4000000 in
set_option maxRecDepth 100000 in
theorem t_x9_passHour_l6 {l : Launch} {G : GG} {M : MC} (X : CX M G cX9_passHour 2 RX9 ⟨10, 0, 0, 255⟩) (hl0 : M.2.1 = l) (hr : (mM M).sig.returnType = none) (hnm : (mM M).name = yX9_passHour.name) {Q : State → Prop} {kc ks : Nat} {s9 : ((Int32) ⊕ (Unit))} {g1 : AH} {a0 : Nat} {s0 : Int32} (hc : ∀ s1, s9 = .inl s1 → WW M G 2 Q kc ks g1 6 [(0, .ref a0), (1, .int s1)] []) (hx : ∀ t, s9 = .inr t → WW M G 2 Q kc ks g1 37 [(0, .ref a0)] []) {g : AH} (E : x9_passHour_l6 a0 s0 g = some (s9, g1)) : WW M G 2 Q kc ks g 6 [(0, .ref a0), (1, .int s0)] [] := by
  unfold x9_passHour_l6 at E
  refine r_iload_n X 1 dX9_passHour_6 rfl rfl ?_
  refine r_aload_n X 0 dX9_passHour_7 rfl rfl ?_
  obtain ⟨x1, e2, E⟩ := gb_some E
  refine r_getR X dX9_passHour_8 f_X9_7 e2 ?_
  refine r_bipush X (v := 12) dX9_passHour_11 (by decide) ?_
  obtain ⟨x3, e4, E⟩ := gb_some E
  refine r_iald X dX9_passHour_13 e4 ?_
  refine r_icmp_ge X 37 dX9_passHour_14 (by decide) (fun c5 => ?_) (fun c5 => ?_)
  · rw [if_pos c5] at E
    cases E
    exact r_pick (by rfl : lpick [(0, .ref a0), (1, .int s0)] [0] = _) (hx _ rfl)
  · rw [if_neg c5] at E
    refine r_aload_n X 0 dX9_passHour_17 rfl rfl ?_
    refine r_iload_n X 1 dX9_passHour_18 rfl rfl ?_
    refine r_bipush X (v := 6) dX9_passHour_19 (by decide) ?_
    refine r_aload_n X 0 dX9_passHour_21 rfl rfl ?_
    refine r_iload_n X 1 dX9_passHour_22 rfl rfl ?_
    obtain ⟨u9, e10, E⟩ := gb_some E
    obtain ⟨r6, g7, e8, E⟩ := cb_some E
    refine r_callV0 X hl0 (ci := 9) dX9_passHour_23 y_X9_deed m_X9_105 rfl rfl e10 (t_x9_deed (l := l) (G := G) e8) rfl rfl (Nat.le_of_ble_eq_true rfl) (by decide) ?_
    refine r_iadd X dX9_passHour_26 ?_
    refine r_iconst X (v := 1) dX9_passHour_27 (by decide) ?_
    obtain ⟨u14, e15, E⟩ := gb_some E
    obtain ⟨r11, g12, e13, E⟩ := cb_some E
    refine r_callV0 X hl0 (ci := 9) dX9_passHour_28 y_X9_increase m_X9_113 rfl rfl e15 (t_x9_increase (l := l) (G := G) e13) rfl rfl (Nat.le_of_ble_eq_true rfl) (by decide) ?_
    refine r_iinc X (v := (s0 + 1)) (L1 := [(1, .int (s0 + 1)), (0, .ref a0)]) dX9_passHour_31 rfl rfl (by decide) rfl ?_
    refine r_goto X 6 dX9_passHour_34 (by decide) ?_
    cases E
    exact r_pick (by rfl : lpick [(1, .int (s0 + 1)), (0, .ref a0)] [1, 0] = _) (hc _ rfl)
set_option maxHeartbeats 4000000 in
theorem t_x9_passHour_l6_r {l : Launch} {G : GG} {M : MC} (X : CX M G cX9_passHour 2 RX9 ⟨10, 0, 0, 255⟩) (hl0 : M.2.1 = l) (hr : (mM M).sig.returnType = none) (hnm : (mM M).name = yX9_passHour.name) {Q : State → Prop} {kc ks : Nat} {a0 : Nat} : ∀ (n : Nat) (s0 : Int32) (g : AH) (t : (Unit)) (g1 : AH), loopX (x9_passHour_l6 a0) n s0 g = some (t, g1) → WW M G 2 Q kc ks g1 37 [(0, .ref a0)] [] → WW M G 2 Q kc ks g 6 [(0, .ref a0), (1, .int s0)] [] :=
  loop_cps (K := fun t g1 => WW M G 2 Q kc ks g1 37 [(0, .ref a0)] []) (fun _ s0 g => WW M G 2 Q kc ks g 6 [(0, .ref a0), (1, .int s0)] []) (fun n s0 g st g1 E hc hx => t_x9_passHour_l6 X hl0 hr hnm hc hx E)
set_option maxHeartbeats 4000000 in
set_option maxRecDepth 100000 in
theorem t_x9_passHour_b {l : Launch} {G : GG} {M : MC} (X : CX M G cX9_passHour 2 RX9 ⟨10, 0, 0, 255⟩) (hl0 : M.2.1 = l) (hr : (mM M).sig.returnType = none) (hnm : (mM M).name = yX9_passHour.name) {p : Nat} {g : AH} {r : Unit} {g1 : AH} (E : x9_passHour p g = some (r, g1)) : WW M G 2 (RQ M G none g1 0 0) 0 0 g 0 [(0, .ref p)] [] := by
  unfold x9_passHour at E
  refine r_aload_n X 0 dX9_passHour_0 rfl rfl ?_
  obtain ⟨u4, e5, E⟩ := gb_some E
  obtain ⟨r1, g2, e3, E⟩ := cb_some E
  refine r_callV0 X hl0 (ci := 9) dX9_passHour_1 y_X9_burn m_X9_129 rfl rfl e5 (t_x9_burn (l := l) (G := G) e3) rfl rfl (Nat.le_of_ble_eq_true rfl) (by decide) ?_
  refine r_iconst X (v := 0) dX9_passHour_4 (by decide) ?_
  refine r_istore_n X 1 (L1 := [(1, .int 0), (0, .ref p)]) dX9_passHour_5 rfl (by decide) rfl ?_
  obtain ⟨t6, g7, e8, E⟩ := cb_some E
  refine r_pick (by rfl : lpick [(1, .int 0), (0, .ref p)] [1, 0] = _) (t_x9_passHour_l6_r X hl0 hr hnm _ _ _ _ _ e8 ?_)
  refine r_aload_n X 0 dX9_passHour_37 rfl rfl ?_
  obtain ⟨x9, e10, E⟩ := gb_some E
  refine r_getR X dX9_passHour_38 f_X9_7 e10 ?_
  refine r_iconst X (v := 3) dX9_passHour_41 (by decide) ?_
  refine r_dup2 X dX9_passHour_42 rfl rfl ?_
  obtain ⟨x11, e12, E⟩ := gb_some E
  refine r_iald X dX9_passHour_43 e12 ?_
  refine r_iconst X (v := 1) dX9_passHour_44 (by decide) ?_
  refine r_iadd X dX9_passHour_45 ?_
  obtain ⟨g13, e14, E⟩ := gb_some E
  refine r_iast X dX9_passHour_46 e14 ?_
  refine r_aload_n X 0 dX9_passHour_47 rfl rfl ?_
  obtain ⟨x15, e16, E⟩ := gb_some E
  refine r_getR X dX9_passHour_48 f_X9_7 e16 ?_
  refine r_iconst X (v := 3) dX9_passHour_51 (by decide) ?_
  obtain ⟨x17, e18, E⟩ := gb_some E
  refine r_iald X dX9_passHour_52 e18 ?_
  refine r_bipush X (v := 8) dX9_passHour_53 (by decide) ?_
  refine r_irem X dX9_passHour_55 (by decide) ?_
  refine r_if_ne X 63 dX9_passHour_56 (by decide) (fun c20 => ?_) (fun c20 => ?_)
  · rw [if_neg c20] at E
    cases E
    exact r_vret X hr dX9_passHour_63 (by decide) (by decide)
  · rw [if_pos c20] at E
    refine r_aload_n X 0 dX9_passHour_59 rfl rfl ?_
    obtain ⟨u24, e25, E⟩ := gb_some E
    obtain ⟨r21, g22, e23, E⟩ := cb_some E
    refine r_callV0 X hl0 (ci := 9) dX9_passHour_60 y_X9_dawn m_X9_132 rfl rfl e25 (t_x9_dawn (l := l) (G := G) e23) rfl rfl (Nat.le_of_ble_eq_true rfl) (by decide) ?_
    cases E
    exact r_vret X hr dX9_passHour_63 (by decide) (by decide)
theorem t_x9_passHour {l : Launch} {G : GG} {p : Nat} {g : AH} {r : Unit} {g1 : AH} (E : x9_passHour p g = some (r, g1)) : Ct l G yX9_passHour cX9_passHour 2 none ⟨10, 0, 0, 255⟩ [.ref p] g none g1 :=
  ct_of (L0 := [(0, .ref p)]) y_X9_passHour rfl (Nat.le_of_ble_eq_true rfl) fun M hl0 X hr hnm => t_x9_passHour_b X hl0 hr hnm E
set_option maxHeartbeats 4000000 in
set_option maxRecDepth 100000 in
theorem t_x9_passMany_l2 {l : Launch} {G : GG} {M : MC} (X : CX M G cX9_passMany 3 RX9 ⟨11, 0, 0, 276⟩) (hl0 : M.2.1 = l) (hr : (mM M).sig.returnType = none) (hnm : (mM M).name = yX9_passMany.name) {Q : State → Prop} {kc ks : Nat} {s9 : ((Int32) ⊕ (Unit))} {g1 : AH} {a0 : Nat} {a1 : Int32} {s0 : Int32} (hc : ∀ s1, s9 = .inl s1 → WW M G 3 Q kc ks g1 2 [(0, .ref a0), (1, .int a1), (2, .int s1)] []) (hx : ∀ t, s9 = .inr t → WW M G 3 Q kc ks g1 17 [] []) {g : AH} (E : x9_passMany_l2 a0 a1 s0 g = some (s9, g1)) : WW M G 3 Q kc ks g 2 [(0, .ref a0), (1, .int a1), (2, .int s0)] [] := by
  unfold x9_passMany_l2 at E
  refine r_iload_n X 2 dX9_passMany_2 rfl rfl ?_
  refine r_iload_n X 1 dX9_passMany_3 rfl rfl ?_
  refine r_icmp_ge X 17 dX9_passMany_4 (by decide) (fun c1 => ?_) (fun c1 => ?_)
  · rw [if_pos c1] at E
    cases E
    exact r_pick (by rfl : lpick [(0, .ref a0), (1, .int a1), (2, .int s0)] [] = _) (hx _ rfl)
  · rw [if_neg c1] at E
    refine r_aload_n X 0 dX9_passMany_7 rfl rfl ?_
    obtain ⟨u5, e6, E⟩ := gb_some E
    obtain ⟨r2, g3, e4, E⟩ := cb_some E
    refine r_callV0 X hl0 (ci := 9) dX9_passMany_8 y_X9_passHour m_X9_135 rfl rfl e6 (t_x9_passHour (l := l) (G := G) e4) rfl rfl (Nat.le_of_ble_eq_true rfl) (by decide) ?_
    refine r_iinc X (v := (s0 + 1)) (L1 := [(2, .int (s0 + 1)), (0, .ref a0), (1, .int a1)]) dX9_passMany_11 rfl rfl (by decide) rfl ?_
    refine r_goto X 2 dX9_passMany_14 (by decide) ?_
    cases E
    exact r_pick (by rfl : lpick [(2, .int (s0 + 1)), (0, .ref a0), (1, .int a1)] [1, 2, 0] = _) (hc _ rfl)
set_option maxHeartbeats 4000000 in
theorem t_x9_passMany_l2_r {l : Launch} {G : GG} {M : MC} (X : CX M G cX9_passMany 3 RX9 ⟨11, 0, 0, 276⟩) (hl0 : M.2.1 = l) (hr : (mM M).sig.returnType = none) (hnm : (mM M).name = yX9_passMany.name) {Q : State → Prop} {kc ks : Nat} {a0 : Nat} {a1 : Int32} : ∀ (n : Nat) (s0 : Int32) (g : AH) (t : (Unit)) (g1 : AH), loopX (x9_passMany_l2 a0 a1) n s0 g = some (t, g1) → WW M G 3 Q kc ks g1 17 [] [] → WW M G 3 Q kc ks g 2 [(0, .ref a0), (1, .int a1), (2, .int s0)] [] :=
  loop_cps (K := fun t g1 => WW M G 3 Q kc ks g1 17 [] []) (fun _ s0 g => WW M G 3 Q kc ks g 2 [(0, .ref a0), (1, .int a1), (2, .int s0)] []) (fun n s0 g st g1 E hc hx => t_x9_passMany_l2 X hl0 hr hnm hc hx E)
set_option maxHeartbeats 4000000 in
set_option maxRecDepth 100000 in
theorem t_x9_passMany_b {l : Launch} {G : GG} {M : MC} (X : CX M G cX9_passMany 3 RX9 ⟨11, 0, 0, 276⟩) (hl0 : M.2.1 = l) (hr : (mM M).sig.returnType = none) (hnm : (mM M).name = yX9_passMany.name) {p : Nat} {b0 : Int32} {g : AH} {r : Unit} {g1 : AH} (E : x9_passMany p b0 g = some (r, g1)) : WW M G 3 (RQ M G none g1 0 0) 0 0 g 0 [(0, .ref p), (1, .int b0)] [] := by
  unfold x9_passMany at E
  refine r_iconst X (v := 0) dX9_passMany_0 (by decide) ?_
  refine r_istore_n X 2 (L1 := [(2, .int 0), (0, .ref p), (1, .int b0)]) dX9_passMany_1 rfl (by decide) rfl ?_
  obtain ⟨t1, g2, e3, E⟩ := cb_some E
  refine r_pick (by rfl : lpick [(2, .int 0), (0, .ref p), (1, .int b0)] [1, 2, 0] = _) (t_x9_passMany_l2_r X hl0 hr hnm _ _ _ _ _ e3 ?_)
  cases E
  exact r_vret X hr dX9_passMany_17 (by decide) (by decide)
theorem t_x9_passMany {l : Launch} {G : GG} {p : Nat} {b0 : Int32} {g : AH} {r : Unit} {g1 : AH} (E : x9_passMany p b0 g = some (r, g1)) : Ct l G yX9_passMany cX9_passMany 3 none ⟨11, 0, 0, 276⟩ [.ref p, .int b0] g none g1 :=
  ct_of (L0 := [(0, .ref p), (1, .int b0)]) y_X9_passMany rfl (Nat.le_of_ble_eq_true rfl) fun M hl0 X hr hnm => t_x9_passMany_b X hl0 hr hnm E
set_option maxHeartbeats 4000000 in
set_option maxRecDepth 100000 in
theorem t_x9_toDawn_b {l : Launch} {G : GG} {M : MC} (X : CX M G cX9_toDawn 1 RX9 ⟨1, 0, 0, 60⟩) (hl0 : M.2.1 = l) (hr : (mM M).sig.returnType = (some .int)) (hnm : (mM M).name = yX9_toDawn.name) {p : Nat} {g : AH} {r : Int32} {g1 : AH} (E : x9_toDawn p g = some (r, g1)) : WW M G 1 (RQ M G (some (.int r)) g1 0 0) 0 0 g 0 [(0, .ref p)] [] := by
  unfold x9_toDawn at E
  refine r_bipush X (v := 8) dX9_toDawn_0 (by decide) ?_
  refine r_aload_n X 0 dX9_toDawn_2 rfl rfl ?_
  obtain ⟨x1, e2, E⟩ := gb_some E
  refine r_getR X dX9_toDawn_3 f_X9_7 e2 ?_
  refine r_iconst X (v := 3) dX9_toDawn_6 (by decide) ?_
  obtain ⟨x3, e4, E⟩ := gb_some E
  refine r_iald X dX9_toDawn_7 e4 ?_
  refine r_bipush X (v := 8) dX9_toDawn_8 (by decide) ?_
  refine r_irem X dX9_toDawn_10 (by decide) ?_
  refine r_isub X dX9_toDawn_11 ?_
  cases E
  exact r_iret X hr dX9_toDawn_12 (by decide) (by decide)
theorem t_x9_toDawn {l : Launch} {G : GG} {p : Nat} {g : AH} {r : Int32} {g1 : AH} (E : x9_toDawn p g = some (r, g1)) : Ct l G yX9_toDawn cX9_toDawn 1 (some .int) ⟨1, 0, 0, 60⟩ [.ref p] g (some (.int r)) g1 :=
  ct_of (L0 := [(0, .ref p)]) y_X9_toDawn rfl (Nat.le_of_ble_eq_true rfl) fun M hl0 X hr hnm => t_x9_toDawn_b X hl0 hr hnm E
set_option maxHeartbeats 4000000 in
set_option maxRecDepth 100000 in
theorem t_x9_appendText_l25 {l : Launch} {G : GG} {M : MC} (X : CX M G cX9_appendText 3 RX9 ⟨2, 0, 0, 81⟩) (hl0 : M.2.1 = l) (hr : (mM M).sig.returnType = (some .int)) (hnm : (mM M).name = yX9_appendText.name) {Q : State → Prop} {kc ks : Nat} {s9 : ((Int32) ⊕ (Unit))} {g1 : AH} {a0 : Nat} {a1 : Int32} {s0 : Int32} (hc : ∀ s1, s9 = .inl s1 → WW M G 3 Q kc ks g1 25 [(0, .ref a0), (1, .int a1), (2, .int s1)] []) (hx : ∀ t, s9 = .inr t → WW M G 3 Q kc ks g1 57 [(0, .ref a0)] []) {g : AH} (E : x9_appendText_l25 a0 a1 s0 g = some (s9, g1)) : WW M G 3 Q kc ks g 25 [(0, .ref a0), (1, .int a1), (2, .int s0)] [] := by
  unfold x9_appendText_l25 at E
  refine r_iload_n X 2 dX9_appendText_25 rfl rfl ?_
  refine r_iconst X (v := 4) dX9_appendText_26 (by decide) ?_
  refine r_icmp_ge X 57 dX9_appendText_27 (by decide) (fun c1 => ?_) (fun c1 => ?_)
  · rw [if_pos c1] at E
    cases E
    exact r_pick (by rfl : lpick [(0, .ref a0), (1, .int a1), (2, .int s0)] [0] = _) (hx _ rfl)
  · rw [if_neg c1] at E
    refine r_aload_n X 0 dX9_appendText_30 rfl rfl ?_
    obtain ⟨x2, e3, E⟩ := gb_some E
    refine r_getR X dX9_appendText_31 f_X9_29 e3 ?_
    refine r_aload_n X 0 dX9_appendText_34 rfl rfl ?_
    obtain ⟨x4, e5, E⟩ := gb_some E
    refine r_getI X dX9_appendText_35 f_X9_138 e5 ?_
    refine r_iload_n X 2 dX9_appendText_38 rfl rfl ?_
    refine r_iadd X dX9_appendText_39 ?_
    refine r_iload_n X 1 dX9_appendText_40 rfl rfl ?_
    refine r_bipush X (v := 24) dX9_appendText_41 (by decide) ?_
    refine r_bipush X (v := 8) dX9_appendText_43 (by decide) ?_
    refine r_iload_n X 2 dX9_appendText_45 rfl rfl ?_
    refine r_imul X dX9_appendText_46 ?_
    refine r_isub X dX9_appendText_47 ?_
    refine r_ishr X dX9_appendText_48 ?_
    refine r_i2b X dX9_appendText_49 ?_
    obtain ⟨g6, e7, E⟩ := gb_some E
    refine r_bast X dX9_appendText_50 e7 ?_
    refine r_iinc X (v := (s0 + 1)) (L1 := [(2, .int (s0 + 1)), (0, .ref a0), (1, .int a1)]) dX9_appendText_51 rfl rfl (by decide) rfl ?_
    refine r_goto X 25 dX9_appendText_54 (by decide) ?_
    cases E
    exact r_pick (by rfl : lpick [(2, .int (s0 + 1)), (0, .ref a0), (1, .int a1)] [1, 2, 0] = _) (hc _ rfl)
set_option maxHeartbeats 4000000 in
theorem t_x9_appendText_l25_r {l : Launch} {G : GG} {M : MC} (X : CX M G cX9_appendText 3 RX9 ⟨2, 0, 0, 81⟩) (hl0 : M.2.1 = l) (hr : (mM M).sig.returnType = (some .int)) (hnm : (mM M).name = yX9_appendText.name) {Q : State → Prop} {kc ks : Nat} {a0 : Nat} {a1 : Int32} : ∀ (n : Nat) (s0 : Int32) (g : AH) (t : (Unit)) (g1 : AH), loopX (x9_appendText_l25 a0 a1) n s0 g = some (t, g1) → WW M G 3 Q kc ks g1 57 [(0, .ref a0)] [] → WW M G 3 Q kc ks g 25 [(0, .ref a0), (1, .int a1), (2, .int s0)] [] :=
  loop_cps (K := fun t g1 => WW M G 3 Q kc ks g1 57 [(0, .ref a0)] []) (fun _ s0 g => WW M G 3 Q kc ks g 25 [(0, .ref a0), (1, .int a1), (2, .int s0)] []) (fun n s0 g st g1 E hc hx => t_x9_appendText_l25 X hl0 hr hnm hc hx E)
set_option maxHeartbeats 4000000 in
set_option maxRecDepth 100000 in
theorem t_x9_appendText_b {l : Launch} {G : GG} {M : MC} (X : CX M G cX9_appendText 3 RX9 ⟨2, 0, 0, 81⟩) (hl0 : M.2.1 = l) (hr : (mM M).sig.returnType = (some .int)) (hnm : (mM M).name = yX9_appendText.name) {p : Nat} {b0 : Int32} {g : AH} {r : Int32} {g1 : AH} (E : x9_appendText p b0 g = some (r, g1)) : WW M G 3 (RQ M G (some (.int r)) g1 0 0) 0 0 g 0 [(0, .ref p), (1, .int b0)] [] := by
  unfold x9_appendText at E
  refine r_aload_n X 0 dX9_appendText_0 rfl rfl ?_
  refine r_iconst X (v := 0) dX9_appendText_1 (by decide) ?_
  obtain ⟨g1, e2, E⟩ := gb_some E
  refine r_put X dX9_appendText_2 f_X9_57 rfl rfl e2 ?_
  refine r_aload_n X 0 dX9_appendText_5 rfl rfl ?_
  obtain ⟨x3, e4, E⟩ := gb_some E
  refine r_getI X dX9_appendText_6 f_X9_138 e4 ?_
  refine r_iconst X (v := 4) dX9_appendText_9 (by decide) ?_
  refine r_iadd X dX9_appendText_10 ?_
  refine r_sipush X (v := 500) dX9_appendText_11 (by decide) ?_
  refine r_icmp_le X 23 dX9_appendText_14 (by decide) (fun c5 => ?_) (fun c5 => ?_)
  · rw [if_pos c5] at E
    refine r_iconst X (v := 0) dX9_appendText_23 (by decide) ?_
    refine r_istore_n X 2 (L1 := [(2, .int 0), (0, .ref p), (1, .int b0)]) dX9_appendText_24 rfl (by decide) rfl ?_
    obtain ⟨t6, g7, e8, E⟩ := cb_some E
    refine r_pick (by rfl : lpick [(2, .int 0), (0, .ref p), (1, .int b0)] [1, 2, 0] = _) (t_x9_appendText_l25_r X hl0 hr hnm _ _ _ _ _ e8 ?_)
    refine r_aload_n X 0 dX9_appendText_57 rfl rfl ?_
    refine r_dup X dX9_appendText_58 rfl ?_
    obtain ⟨x9, e10, E⟩ := gb_some E
    refine r_getI X dX9_appendText_59 f_X9_138 e10 ?_
    refine r_iconst X (v := 4) dX9_appendText_62 (by decide) ?_
    refine r_iadd X dX9_appendText_63 ?_
    obtain ⟨g11, e12, E⟩ := gb_some E
    refine r_put X dX9_appendText_64 f_X9_138 rfl rfl e12 ?_
    refine r_aload_n X 0 dX9_appendText_67 rfl rfl ?_
    obtain ⟨x13, e14, E⟩ := gb_some E
    refine r_getI X dX9_appendText_68 f_X9_138 e14 ?_
    cases E
    exact r_iret X hr dX9_appendText_71 (by decide) (by decide)
  · rw [if_neg c5] at E
    refine r_aload_n X 0 dX9_appendText_17 rfl rfl ?_
    refine r_iconst X (v := 1) dX9_appendText_18 (by decide) ?_
    obtain ⟨u18, e19, E⟩ := gb_some E
    obtain ⟨r15, g16, e17, E⟩ := cb_some E
    refine r_callV0 X hl0 (ci := 9) dX9_appendText_19 y_X9_fail m_X9_141 rfl rfl e19 (t_x9_fail (l := l) (G := G) e17) rfl rfl (Nat.le_of_ble_eq_true rfl) (by decide) ?_
    cases E
    exact r_iret X hr dX9_appendText_22 (by decide) (by decide)
theorem t_x9_appendText {l : Launch} {G : GG} {p : Nat} {b0 : Int32} {g : AH} {r : Int32} {g1 : AH} (E : x9_appendText p b0 g = some (r, g1)) : Ct l G yX9_appendText cX9_appendText 3 (some .int) ⟨2, 0, 0, 81⟩ [.ref p, .int b0] g (some (.int r)) g1 :=
  ct_of (L0 := [(0, .ref p), (1, .int b0)]) y_X9_appendText rfl (Nat.le_of_ble_eq_true rfl) fun M hl0 X hr hnm => t_x9_appendText_b X hl0 hr hnm E
set_option maxHeartbeats 4000000 in
set_option maxRecDepth 100000 in
theorem t_x9_truncateText_b {l : Launch} {G : GG} {M : MC} (X : CX M G cX9_truncateText 2 RX9 ⟨2, 0, 0, 82⟩) (hl0 : M.2.1 = l) (hr : (mM M).sig.returnType = (some .int)) (hnm : (mM M).name = yX9_truncateText.name) {p : Nat} {b0 : Int32} {g : AH} {r : Int32} {g1 : AH} (E : x9_truncateText p b0 g = some (r, g1)) : WW M G 2 (RQ M G (some (.int r)) g1 0 0) 0 0 g 0 [(0, .ref p), (1, .int b0)] [] := by
  unfold x9_truncateText at E
  refine r_aload_n X 0 dX9_truncateText_0 rfl rfl ?_
  refine r_iconst X (v := 0) dX9_truncateText_1 (by decide) ?_
  obtain ⟨g1, e2, E⟩ := gb_some E
  refine r_put X dX9_truncateText_2 f_X9_57 rfl rfl e2 ?_
  refine r_iload_n X 1 dX9_truncateText_5 rfl rfl ?_
  refine r_iconst X (v := 0) dX9_truncateText_6 (by decide) ?_
  refine r_aload_n X 0 dX9_truncateText_7 rfl rfl ?_
  obtain ⟨x3, e4, E⟩ := gb_some E
  refine r_getI X dX9_truncateText_8 f_X9_138 e4 ?_
  obtain ⟨r5, g6, e7, E⟩ := cb_some E
  refine r_callS0 X hl0 dX9_truncateText_11 y_X9_isBetween m_X9_68 (t_x9_isBetween (l := l) (G := G) e7) rfl rfl (Nat.le_of_ble_eq_true rfl) (by decide) ?_
  refine r_if_ne X 23 dX9_truncateText_14 (by decide) (fun c8 => ?_) (fun c8 => ?_)
  · rw [if_neg c8] at E
    refine r_aload_n X 0 dX9_truncateText_23 rfl rfl ?_
    refine r_iload_n X 1 dX9_truncateText_24 rfl rfl ?_
    obtain ⟨g9, e10, E⟩ := gb_some E
    refine r_put X dX9_truncateText_25 f_X9_138 rfl rfl e10 ?_
    refine r_aload_n X 0 dX9_truncateText_28 rfl rfl ?_
    obtain ⟨x11, e12, E⟩ := gb_some E
    refine r_getI X dX9_truncateText_29 f_X9_138 e12 ?_
    cases E
    exact r_iret X hr dX9_truncateText_32 (by decide) (by decide)
  · rw [if_pos c8] at E
    refine r_aload_n X 0 dX9_truncateText_17 rfl rfl ?_
    refine r_iconst X (v := 1) dX9_truncateText_18 (by decide) ?_
    obtain ⟨u16, e17, E⟩ := gb_some E
    obtain ⟨r13, g14, e15, E⟩ := cb_some E
    refine r_callV0 X hl0 (ci := 9) dX9_truncateText_19 y_X9_fail m_X9_141 rfl rfl e17 (t_x9_fail (l := l) (G := G) e15) rfl rfl (Nat.le_of_ble_eq_true rfl) (by decide) ?_
    cases E
    exact r_iret X hr dX9_truncateText_22 (by decide) (by decide)
theorem t_x9_truncateText {l : Launch} {G : GG} {p : Nat} {b0 : Int32} {g : AH} {r : Int32} {g1 : AH} (E : x9_truncateText p b0 g = some (r, g1)) : Ct l G yX9_truncateText cX9_truncateText 2 (some .int) ⟨2, 0, 0, 82⟩ [.ref p, .int b0] g (some (.int r)) g1 :=
  ct_of (L0 := [(0, .ref p), (1, .int b0)]) y_X9_truncateText rfl (Nat.le_of_ble_eq_true rfl) fun M hl0 X hr hnm => t_x9_truncateText_b X hl0 hr hnm E
set_option maxHeartbeats 4000000 in
set_option maxRecDepth 100000 in
theorem t_x9_byteAt_b {l : Launch} {G : GG} {M : MC} (X : CX M G cX9_byteAt 2 RX9 ⟨1, 0, 0, 60⟩) (hl0 : M.2.1 = l) (hr : (mM M).sig.returnType = (some .int)) (hnm : (mM M).name = yX9_byteAt.name) {p : Nat} {b0 : Int32} {g : AH} {r : Int32} {g1 : AH} (E : x9_byteAt p b0 g = some (r, g1)) : WW M G 2 (RQ M G (some (.int r)) g1 0 0) 0 0 g 0 [(0, .ref p), (1, .int b0)] [] := by
  unfold x9_byteAt at E
  refine r_iload_n X 1 dX9_byteAt_0 rfl rfl ?_
  refine r_aload_n X 0 dX9_byteAt_1 rfl rfl ?_
  obtain ⟨x1, e2, E⟩ := gb_some E
  refine r_getI X dX9_byteAt_2 f_X9_138 e2 ?_
  refine r_icmp_ge X 21 dX9_byteAt_5 (by decide) (fun c3 => ?_) (fun c3 => ?_)
  · rw [if_pos c3] at E
    refine r_iconst X (v := (-1)) dX9_byteAt_21 (by decide) ?_
    cases E
    exact r_iret X hr dX9_byteAt_22 (by decide) (by decide)
  · rw [if_neg c3] at E
    refine r_aload_n X 0 dX9_byteAt_8 rfl rfl ?_
    obtain ⟨x4, e5, E⟩ := gb_some E
    refine r_getR X dX9_byteAt_9 f_X9_29 e5 ?_
    refine r_iload_n X 1 dX9_byteAt_12 rfl rfl ?_
    obtain ⟨x6, e7, E⟩ := gb_some E
    refine r_bald X dX9_byteAt_13 e7 ?_
    refine r_sipush X (v := 255) dX9_byteAt_14 (by decide) ?_
    refine r_iand X dX9_byteAt_17 ?_
    refine r_goto X 22 dX9_byteAt_18 (by decide) ?_
    cases E
    exact r_iret X hr dX9_byteAt_22 (by decide) (by decide)
theorem t_x9_byteAt {l : Launch} {G : GG} {p : Nat} {b0 : Int32} {g : AH} {r : Int32} {g1 : AH} (E : x9_byteAt p b0 g = some (r, g1)) : Ct l G yX9_byteAt cX9_byteAt 2 (some .int) ⟨1, 0, 0, 60⟩ [.ref p, .int b0] g (some (.int r)) g1 :=
  ct_of (L0 := [(0, .ref p), (1, .int b0)]) y_X9_byteAt rfl (Nat.le_of_ble_eq_true rfl) fun M hl0 X hr hnm => t_x9_byteAt_b X hl0 hr hnm E
set_option maxHeartbeats 4000000 in
set_option maxRecDepth 100000 in
theorem t_x9_isLetter_b {l : Launch} {G : GG} {M : MC} (X : CX M G cX9_isLetter 1 RX9 ⟨2, 0, 0, 82⟩) (hl0 : M.2.1 = l) (hr : (mM M).sig.returnType = (some .boolean)) (hnm : (mM M).name = yX9_isLetter.name) {b0 : Int32} {g : AH} {r : Int32} {g1 : AH} (E : x9_isLetter b0 g = some (r, g1)) : WW M G 1 (RQ M G (some (.int r)) g1 0 0) 0 0 g 0 [(0, .int b0)] [] := by
  unfold x9_isLetter at E
  refine r_iload_n X 0 dX9_isLetter_0 rfl rfl ?_
  refine r_bipush X (v := 97) dX9_isLetter_1 (by decide) ?_
  refine r_bipush X (v := 122) dX9_isLetter_3 (by decide) ?_
  obtain ⟨r1, g2, e3, E⟩ := cb_some E
  refine r_callS0 X hl0 dX9_isLetter_5 y_X9_isBetween m_X9_68 (t_x9_isBetween (l := l) (G := G) e3) rfl rfl (Nat.le_of_ble_eq_true rfl) (by decide) ?_
  by_cases c4 : bz r1
  · rw [if_pos c4] at E
    cases E
    exact r_zret X hr c4 dX9_isLetter_8 (by decide) (by decide)
  · rw [if_neg c4] at E; cases E
theorem t_x9_isLetter {l : Launch} {G : GG} {b0 : Int32} {g : AH} {r : Int32} {g1 : AH} (E : x9_isLetter b0 g = some (r, g1)) : Ct l G yX9_isLetter cX9_isLetter 1 (some .boolean) ⟨2, 0, 0, 82⟩ [.int b0] g (some (.int r)) g1 :=
  ct_of (L0 := [(0, .int b0)]) y_X9_isLetter rfl (Nat.le_of_ble_eq_true rfl) fun M hl0 X hr hnm => t_x9_isLetter_b X hl0 hr hnm E
set_option maxHeartbeats 4000000 in
set_option maxRecDepth 100000 in
theorem t_x9_isDigit_b {l : Launch} {G : GG} {M : MC} (X : CX M G cX9_isDigit 1 RX9 ⟨2, 0, 0, 82⟩) (hl0 : M.2.1 = l) (hr : (mM M).sig.returnType = (some .boolean)) (hnm : (mM M).name = yX9_isDigit.name) {b0 : Int32} {g : AH} {r : Int32} {g1 : AH} (E : x9_isDigit b0 g = some (r, g1)) : WW M G 1 (RQ M G (some (.int r)) g1 0 0) 0 0 g 0 [(0, .int b0)] [] := by
  unfold x9_isDigit at E
  refine r_iload_n X 0 dX9_isDigit_0 rfl rfl ?_
  refine r_bipush X (v := 48) dX9_isDigit_1 (by decide) ?_
  refine r_bipush X (v := 57) dX9_isDigit_3 (by decide) ?_
  obtain ⟨r1, g2, e3, E⟩ := cb_some E
  refine r_callS0 X hl0 dX9_isDigit_5 y_X9_isBetween m_X9_68 (t_x9_isBetween (l := l) (G := G) e3) rfl rfl (Nat.le_of_ble_eq_true rfl) (by decide) ?_
  by_cases c4 : bz r1
  · rw [if_pos c4] at E
    cases E
    exact r_zret X hr c4 dX9_isDigit_8 (by decide) (by decide)
  · rw [if_neg c4] at E; cases E
theorem t_x9_isDigit {l : Launch} {G : GG} {b0 : Int32} {g : AH} {r : Int32} {g1 : AH} (E : x9_isDigit b0 g = some (r, g1)) : Ct l G yX9_isDigit cX9_isDigit 1 (some .boolean) ⟨2, 0, 0, 82⟩ [.int b0] g (some (.int r)) g1 :=
  ct_of (L0 := [(0, .int b0)]) y_X9_isDigit rfl (Nat.le_of_ble_eq_true rfl) fun M hl0 X hr hnm => t_x9_isDigit_b X hl0 hr hnm E
set_option maxHeartbeats 4000000 in
set_option maxRecDepth 100000 in
theorem t_x9_isFine_b {l : Launch} {G : GG} {M : MC} (X : CX M G cX9_isFine 1 RX9 ⟨1, 0, 0, 60⟩) (hl0 : M.2.1 = l) (hr : (mM M).sig.returnType = (some .boolean)) (hnm : (mM M).name = yX9_isFine.name) {p : Nat} {g : AH} {r : Int32} {g1 : AH} (E : x9_isFine p g = some (r, g1)) : WW M G 1 (RQ M G (some (.int r)) g1 0 0) 0 0 g 0 [(0, .ref p)] [] := by
  unfold x9_isFine at E
  refine r_aload_n X 0 dX9_isFine_0 rfl rfl ?_
  obtain ⟨x1, e2, E⟩ := gb_some E
  refine r_getI X dX9_isFine_1 f_X9_144 e2 ?_
  refine r_if_ne X 11 dX9_isFine_4 (by decide) (fun c3 => ?_) (fun c3 => ?_)
  · rw [if_neg c3] at E
    refine r_iconst X (v := 0) dX9_isFine_11 (by decide) ?_
    cases E
    exact r_zret X hr (Or.inl rfl) dX9_isFine_12 (by decide) (by decide)
  · rw [if_pos c3] at E
    refine r_iconst X (v := 1) dX9_isFine_7 (by decide) ?_
    refine r_goto X 12 dX9_isFine_8 (by decide) ?_
    cases E
    exact r_zret X hr (Or.inr rfl) dX9_isFine_12 (by decide) (by decide)
theorem t_x9_isFine {l : Launch} {G : GG} {p : Nat} {g : AH} {r : Int32} {g1 : AH} (E : x9_isFine p g = some (r, g1)) : Ct l G yX9_isFine cX9_isFine 1 (some .boolean) ⟨1, 0, 0, 60⟩ [.ref p] g (some (.int r)) g1 :=
  ct_of (L0 := [(0, .ref p)]) y_X9_isFine rfl (Nat.le_of_ble_eq_true rfl) fun M hl0 X hr hnm => t_x9_isFine_b X hl0 hr hnm E
set_option maxHeartbeats 4000000 in
set_option maxRecDepth 100000 in
theorem t_x9_require_b {l : Launch} {G : GG} {M : MC} (X : CX M G cX9_require 3 RX9 ⟨2, 0, 0, 80⟩) (hl0 : M.2.1 = l) (hr : (mM M).sig.returnType = none) (hnm : (mM M).name = yX9_require.name) {p : Nat} {b0 : Int32} {b1 : Int32} {g : AH} {r : Unit} {g1 : AH} (E : x9_require p b0 b1 g = some (r, g1)) : WW M G 3 (RQ M G none g1 0 0) 0 0 g 0 [(0, .ref p), (1, .int b0), (2, .int b1)] [] := by
  unfold x9_require at E
  refine r_aload_n X 0 dX9_require_0 rfl rfl ?_
  obtain ⟨u4, e5, E⟩ := gb_some E
  obtain ⟨r1, g2, e3, E⟩ := cb_some E
  refine r_callV0 X hl0 (ci := 9) dX9_require_1 y_X9_isFine m_X9_147 rfl rfl e5 (t_x9_isFine (l := l) (G := G) e3) rfl rfl (Nat.le_of_ble_eq_true rfl) (by decide) ?_
  refine r_if_eq X 24 dX9_require_4 (by decide) (fun c6 => ?_) (fun c6 => ?_)
  · rw [if_pos c6] at E
    cases E
    exact r_vret X hr dX9_require_24 (by decide) (by decide)
  · rw [if_neg c6] at E
    refine r_iload_n X 1 dX9_require_7 rfl rfl ?_
    refine r_if_ne X 24 dX9_require_8 (by decide) (fun c7 => ?_) (fun c7 => ?_)
    · rw [if_neg c7] at E
      cases E
      exact r_vret X hr dX9_require_24 (by decide) (by decide)
    · rw [if_pos c7] at E
      refine r_aload_n X 0 dX9_require_11 rfl rfl ?_
      refine r_iload_n X 2 dX9_require_12 rfl rfl ?_
      obtain ⟨g8, e9, E⟩ := gb_some E
      refine r_put X dX9_require_13 f_X9_144 rfl rfl e9 ?_
      refine r_aload_n X 0 dX9_require_16 rfl rfl ?_
      refine r_aload_n X 0 dX9_require_17 rfl rfl ?_
      obtain ⟨x10, e11, E⟩ := gb_some E
      refine r_getI X dX9_require_18 f_X9_151 e11 ?_
      obtain ⟨g12, e13, E⟩ := gb_some E
      refine r_put X dX9_require_21 f_X9_33 rfl rfl e13 ?_
      cases E
      exact r_vret X hr dX9_require_24 (by decide) (by decide)
theorem t_x9_require {l : Launch} {G : GG} {p : Nat} {b0 : Int32} {b1 : Int32} {g : AH} {r : Unit} {g1 : AH} (E : x9_require p b0 b1 g = some (r, g1)) : Ct l G yX9_require cX9_require 3 none ⟨2, 0, 0, 80⟩ [.ref p, .int b0, .int b1] g none g1 :=
  ct_of (L0 := [(0, .ref p), (1, .int b0), (2, .int b1)]) y_X9_require rfl (Nat.le_of_ble_eq_true rfl) fun M hl0 X hr hnm => t_x9_require_b X hl0 hr hnm E
set_option maxHeartbeats 4000000 in
set_option maxRecDepth 100000 in
theorem t_x9_proceed_j34_8 {l : Launch} {G : GG} {M : MC} (X : CX M G cX9_proceed 2 RX9 ⟨3, 0, 0, 150⟩) (hl0 : M.2.1 = l) (hr : (mM M).sig.returnType = none) (hnm : (mM M).name = yX9_proceed.name) {Q : State → Prop} {kc ks : Nat} {s9 : ((Unit) ⊕ (Unit))} {g1 : AH} {a0 : Nat} (hc : ∀ s1, s9 = .inl s1 → WW M G 2 Q kc ks g1 8 [(0, .ref a0)] []) (hx : ∀ t, s9 = .inr t → WW M G 2 Q kc ks g1 47 [(0, .ref a0)] []) {g : AH} (E : x9_proceed_j34_8 a0 g = some (s9, g1)) : WW M G 2 Q kc ks g 34 [(0, .ref a0)] [] := by
  unfold x9_proceed_j34_8 at E
  refine r_aload_n X 0 dX9_proceed_34 rfl rfl ?_
  refine r_dup X dX9_proceed_35 rfl ?_
  obtain ⟨x1, e2, E⟩ := gb_some E
  refine r_getI X dX9_proceed_36 f_X9_154 e2 ?_
  refine r_iconst X (v := 1) dX9_proceed_39 (by decide) ?_
  refine r_iadd X dX9_proceed_40 ?_
  obtain ⟨g3, e4, E⟩ := gb_some E
  refine r_put X dX9_proceed_41 f_X9_154 rfl rfl e4 ?_
  refine r_goto X 8 dX9_proceed_44 (by decide) ?_
  cases E
  exact r_pick (by rfl : lpick [(0, .ref a0)] [0] = _) (hc _ rfl)
set_option maxHeartbeats 4000000 in
set_option maxRecDepth 100000 in
theorem t_x9_proceed_l8 {l : Launch} {G : GG} {M : MC} (X : CX M G cX9_proceed 2 RX9 ⟨3, 0, 0, 150⟩) (hl0 : M.2.1 = l) (hr : (mM M).sig.returnType = none) (hnm : (mM M).name = yX9_proceed.name) {Q : State → Prop} {kc ks : Nat} {s9 : ((Unit) ⊕ (Unit))} {g1 : AH} {a0 : Nat} {s0 : Unit} (hc : ∀ s1, s9 = .inl s1 → WW M G 2 Q kc ks g1 8 [(0, .ref a0)] []) (hx : ∀ t, s9 = .inr t → WW M G 2 Q kc ks g1 47 [(0, .ref a0)] []) {g : AH} (E : x9_proceed_l8 a0 s0 g = some (s9, g1)) : WW M G 2 Q kc ks g 8 [(0, .ref a0)] [] := by
  unfold x9_proceed_l8 at E
  refine r_aload_n X 0 dX9_proceed_8 rfl rfl ?_
  refine r_aload_n X 0 dX9_proceed_9 rfl rfl ?_
  obtain ⟨x1, e2, E⟩ := gb_some E
  refine r_getI X dX9_proceed_10 f_X9_154 e2 ?_
  obtain ⟨u6, e7, E⟩ := gb_some E
  obtain ⟨r3, g4, e5, E⟩ := cb_some E
  refine r_callV0 X hl0 (ci := 9) dX9_proceed_13 y_X9_byteAt m_X9_157 rfl rfl e7 (t_x9_byteAt (l := l) (G := G) e5) rfl rfl (Nat.le_of_ble_eq_true rfl) (by decide) ?_
  refine r_bipush X (v := 32) dX9_proceed_16 (by decide) ?_
  refine r_icmp_eq X 34 dX9_proceed_18 (by decide) (fun c8 => ?_) (fun c8 => ?_)
  · rw [if_pos c8] at E
    exact r_pick (by rfl : lpick [(0, .ref a0)] [0] = _) (t_x9_proceed_j34_8 X hl0 hr hnm hc hx E)
  · rw [if_neg c8] at E
    refine r_aload_n X 0 dX9_proceed_21 rfl rfl ?_
    refine r_aload_n X 0 dX9_proceed_22 rfl rfl ?_
    obtain ⟨x9, e10, E⟩ := gb_some E
    refine r_getI X dX9_proceed_23 f_X9_154 e10 ?_
    obtain ⟨u14, e15, E⟩ := gb_some E
    obtain ⟨r11, g12, e13, E⟩ := cb_some E
    refine r_callV0 X hl0 (ci := 9) dX9_proceed_26 y_X9_byteAt m_X9_157 rfl rfl e15 (t_x9_byteAt (l := l) (G := G) e13) rfl rfl (Nat.le_of_ble_eq_true rfl) (by decide) ?_
    refine r_bipush X (v := 10) dX9_proceed_29 (by decide) ?_
    refine r_icmp_ne X 47 dX9_proceed_31 (by decide) (fun c16 => ?_) (fun c16 => ?_)
    · rw [if_neg c16] at E
      cases E
      exact r_pick (by rfl : lpick [(0, .ref a0)] [0] = _) (hx _ rfl)
    · rw [if_pos c16] at E
      exact r_pick (by rfl : lpick [(0, .ref a0)] [0] = _) (t_x9_proceed_j34_8 X hl0 hr hnm hc hx E)
set_option maxHeartbeats 4000000 in
theorem t_x9_proceed_l8_r {l : Launch} {G : GG} {M : MC} (X : CX M G cX9_proceed 2 RX9 ⟨3, 0, 0, 150⟩) (hl0 : M.2.1 = l) (hr : (mM M).sig.returnType = none) (hnm : (mM M).name = yX9_proceed.name) {Q : State → Prop} {kc ks : Nat} {a0 : Nat} : ∀ (n : Nat) (s0 : Unit) (g : AH) (t : (Unit)) (g1 : AH), loopX (x9_proceed_l8 a0) n s0 g = some (t, g1) → WW M G 2 Q kc ks g1 47 [(0, .ref a0)] [] → WW M G 2 Q kc ks g 8 [(0, .ref a0)] [] :=
  loop_cps (K := fun t g1 => WW M G 2 Q kc ks g1 47 [(0, .ref a0)] []) (fun _ s0 g => WW M G 2 Q kc ks g 8 [(0, .ref a0)] []) (fun n s0 g st g1 E hc hx => t_x9_proceed_l8 X hl0 hr hnm hc hx E)
set_option maxHeartbeats 4000000 in
set_option maxRecDepth 100000 in
theorem t_x9_proceed_l144 {l : Launch} {G : GG} {M : MC} (X : CX M G cX9_proceed 2 RX9 ⟨3, 0, 0, 150⟩) (hl0 : M.2.1 = l) (hr : (mM M).sig.returnType = none) (hnm : (mM M).name = yX9_proceed.name) {Q : State → Prop} {kc ks : Nat} {s9 : ((Unit) ⊕ (Unit))} {g1 : AH} {a0 : Nat} {s0 : Unit} (hc : ∀ s1, s9 = .inl s1 → WW M G 2 Q kc ks g1 144 [(0, .ref a0)] []) (hx : ∀ t, s9 = .inr t → WW M G 2 Q kc ks g1 214 [] []) {g : AH} (E : x9_proceed_l144 a0 s0 g = some (s9, g1)) : WW M G 2 Q kc ks g 144 [(0, .ref a0)] [] := by
  unfold x9_proceed_l144 at E
  refine r_aload_n X 0 dX9_proceed_144 rfl rfl ?_
  refine r_aload_n X 0 dX9_proceed_145 rfl rfl ?_
  obtain ⟨x1, e2, E⟩ := gb_some E
  refine r_getI X dX9_proceed_146 f_X9_154 e2 ?_
  obtain ⟨u6, e7, E⟩ := gb_some E
  obtain ⟨r3, g4, e5, E⟩ := cb_some E
  refine r_callV0 X hl0 (ci := 9) dX9_proceed_149 y_X9_byteAt m_X9_157 rfl rfl e7 (t_x9_byteAt (l := l) (G := G) e5) rfl rfl (Nat.le_of_ble_eq_true rfl) (by decide) ?_
  obtain ⟨r8, g9, e10, E⟩ := cb_some E
  refine r_callS0 X hl0 dX9_proceed_152 y_X9_isDigit m_X9_166 (t_x9_isDigit (l := l) (G := G) e10) rfl rfl (Nat.le_of_ble_eq_true rfl) (by decide) ?_
  refine r_if_eq X 214 dX9_proceed_155 (by decide) (fun c11 => ?_) (fun c11 => ?_)
  · rw [if_pos c11] at E
    cases E
    exact r_pick (by rfl : lpick [(0, .ref a0)] [] = _) (hx _ rfl)
  · rw [if_neg c11] at E
    refine r_aload_n X 0 dX9_proceed_158 rfl rfl ?_
    refine r_ldcI X dX9_proceed_159 q_X9_172 ?_
    refine r_bipush X (v := 10) dX9_proceed_161 (by decide) ?_
    refine r_aload_n X 0 dX9_proceed_163 rfl rfl ?_
    obtain ⟨x12, e13, E⟩ := gb_some E
    refine r_getI X dX9_proceed_164 f_X9_169 e13 ?_
    refine r_imul X dX9_proceed_167 ?_
    refine r_aload_n X 0 dX9_proceed_168 rfl rfl ?_
    refine r_aload_n X 0 dX9_proceed_169 rfl rfl ?_
    obtain ⟨x14, e15, E⟩ := gb_some E
    refine r_getI X dX9_proceed_170 f_X9_154 e15 ?_
    obtain ⟨u19, e20, E⟩ := gb_some E
    obtain ⟨r16, g17, e18, E⟩ := cb_some E
    refine r_callV0 X hl0 (ci := 9) dX9_proceed_173 y_X9_byteAt m_X9_157 rfl rfl e20 (t_x9_byteAt (l := l) (G := G) e18) rfl rfl (Nat.le_of_ble_eq_true rfl) (by decide) ?_
    refine r_iadd X dX9_proceed_176 ?_
    refine r_bipush X (v := 48) dX9_proceed_177 (by decide) ?_
    refine r_isub X dX9_proceed_179 ?_
    refine r_min X dX9_proceed_180 m_X9_108m (by decide) (Nat.le_of_ble_eq_true rfl) ?_
    obtain ⟨g21, e22, E⟩ := gb_some E
    refine r_put X dX9_proceed_183 f_X9_169 rfl rfl e22 ?_
    refine r_aload_n X 0 dX9_proceed_186 rfl rfl ?_
    refine r_dup X dX9_proceed_187 rfl ?_
    obtain ⟨x23, e24, E⟩ := gb_some E
    refine r_getI X dX9_proceed_188 f_X9_154 e24 ?_
    refine r_iconst X (v := 1) dX9_proceed_191 (by decide) ?_
    refine r_iadd X dX9_proceed_192 ?_
    obtain ⟨g25, e26, E⟩ := gb_some E
    refine r_put X dX9_proceed_193 f_X9_154 rfl rfl e26 ?_
    refine r_goto X 144 dX9_proceed_196 (by decide) ?_
    cases E
    exact r_pick (by rfl : lpick [(0, .ref a0)] [0] = _) (hc _ rfl)
set_option maxHeartbeats 4000000 in
theorem t_x9_proceed_l144_r {l : Launch} {G : GG} {M : MC} (X : CX M G cX9_proceed 2 RX9 ⟨3, 0, 0, 150⟩) (hl0 : M.2.1 = l) (hr : (mM M).sig.returnType = none) (hnm : (mM M).name = yX9_proceed.name) {Q : State → Prop} {kc ks : Nat} {a0 : Nat} : ∀ (n : Nat) (s0 : Unit) (g : AH) (t : (Unit)) (g1 : AH), loopX (x9_proceed_l144 a0) n s0 g = some (t, g1) → WW M G 2 Q kc ks g1 214 [] [] → WW M G 2 Q kc ks g 144 [(0, .ref a0)] [] :=
  loop_cps (K := fun t g1 => WW M G 2 Q kc ks g1 214 [] []) (fun _ s0 g => WW M G 2 Q kc ks g 144 [(0, .ref a0)] []) (fun n s0 g st g1 E hc hx => t_x9_proceed_l144 X hl0 hr hnm hc hx E)
set_option maxHeartbeats 4000000 in
set_option maxRecDepth 100000 in
theorem t_x9_proceed_l97 {l : Launch} {G : GG} {M : MC} (X : CX M G cX9_proceed 2 RX9 ⟨3, 0, 0, 150⟩) (hl0 : M.2.1 = l) (hr : (mM M).sig.returnType = none) (hnm : (mM M).name = yX9_proceed.name) {Q : State → Prop} {kc ks : Nat} {s9 : ((Unit) ⊕ (Unit))} {g1 : AH} {a0 : Nat} {s0 : Unit} (hc : ∀ s1, s9 = .inl s1 → WW M G 2 Q kc ks g1 97 [(0, .ref a0)] []) (hx : ∀ t, s9 = .inr t → WW M G 2 Q kc ks g1 214 [] []) {g : AH} (E : x9_proceed_l97 a0 s0 g = some (s9, g1)) : WW M G 2 Q kc ks g 97 [(0, .ref a0)] [] := by
  unfold x9_proceed_l97 at E
  refine r_aload_n X 0 dX9_proceed_97 rfl rfl ?_
  refine r_aload_n X 0 dX9_proceed_98 rfl rfl ?_
  obtain ⟨x1, e2, E⟩ := gb_some E
  refine r_getI X dX9_proceed_99 f_X9_154 e2 ?_
  obtain ⟨u6, e7, E⟩ := gb_some E
  obtain ⟨r3, g4, e5, E⟩ := cb_some E
  refine r_callV0 X hl0 (ci := 9) dX9_proceed_102 y_X9_byteAt m_X9_157 rfl rfl e7 (t_x9_byteAt (l := l) (G := G) e5) rfl rfl (Nat.le_of_ble_eq_true rfl) (by decide) ?_
  obtain ⟨r8, g9, e10, E⟩ := cb_some E
  refine r_callS0 X hl0 dX9_proceed_105 y_X9_isLetter m_X9_163 (t_x9_isLetter (l := l) (G := G) e10) rfl rfl (Nat.le_of_ble_eq_true rfl) (by decide) ?_
  refine r_if_eq X 214 dX9_proceed_108 (by decide) (fun c11 => ?_) (fun c11 => ?_)
  · rw [if_pos c11] at E
    cases E
    exact r_pick (by rfl : lpick [(0, .ref a0)] [] = _) (hx _ rfl)
  · rw [if_neg c11] at E
    refine r_aload_n X 0 dX9_proceed_111 rfl rfl ?_
    refine r_dup X dX9_proceed_112 rfl ?_
    obtain ⟨x12, e13, E⟩ := gb_some E
    refine r_getI X dX9_proceed_113 f_X9_154 e13 ?_
    refine r_iconst X (v := 1) dX9_proceed_116 (by decide) ?_
    refine r_iadd X dX9_proceed_117 ?_
    obtain ⟨g14, e15, E⟩ := gb_some E
    refine r_put X dX9_proceed_118 f_X9_154 rfl rfl e15 ?_
    refine r_goto X 97 dX9_proceed_121 (by decide) ?_
    cases E
    exact r_pick (by rfl : lpick [(0, .ref a0)] [0] = _) (hc _ rfl)
set_option maxHeartbeats 4000000 in
theorem t_x9_proceed_l97_r {l : Launch} {G : GG} {M : MC} (X : CX M G cX9_proceed 2 RX9 ⟨3, 0, 0, 150⟩) (hl0 : M.2.1 = l) (hr : (mM M).sig.returnType = none) (hnm : (mM M).name = yX9_proceed.name) {Q : State → Prop} {kc ks : Nat} {a0 : Nat} : ∀ (n : Nat) (s0 : Unit) (g : AH) (t : (Unit)) (g1 : AH), loopX (x9_proceed_l97 a0) n s0 g = some (t, g1) → WW M G 2 Q kc ks g1 214 [] [] → WW M G 2 Q kc ks g 97 [(0, .ref a0)] [] :=
  loop_cps (K := fun t g1 => WW M G 2 Q kc ks g1 214 [] []) (fun _ s0 g => WW M G 2 Q kc ks g 97 [(0, .ref a0)] []) (fun n s0 g st g1 E hc hx => t_x9_proceed_l97 X hl0 hr hnm hc hx E)
set_option maxHeartbeats 4000000 in
set_option maxRecDepth 100000 in
theorem t_x9_proceed_b {l : Launch} {G : GG} {M : MC} (X : CX M G cX9_proceed 2 RX9 ⟨3, 0, 0, 150⟩) (hl0 : M.2.1 = l) (hr : (mM M).sig.returnType = none) (hnm : (mM M).name = yX9_proceed.name) {p : Nat} {g : AH} {r : Unit} {g1 : AH} (E : x9_proceed p g = some (r, g1)) : WW M G 2 (RQ M G none g1 0 0) 0 0 g 0 [(0, .ref p)] [] := by
  unfold x9_proceed at E
  refine r_aload_n X 0 dX9_proceed_0 rfl rfl ?_
  obtain ⟨u4, e5, E⟩ := gb_some E
  obtain ⟨r1, g2, e3, E⟩ := cb_some E
  refine r_callV0 X hl0 (ci := 9) dX9_proceed_1 y_X9_isFine m_X9_147 rfl rfl e5 (t_x9_isFine (l := l) (G := G) e3) rfl rfl (Nat.le_of_ble_eq_true rfl) (by decide) ?_
  refine r_if_ne X 8 dX9_proceed_4 (by decide) (fun c6 => ?_) (fun c6 => ?_)
  · rw [if_neg c6] at E
    obtain ⟨t7, g8, e9, E⟩ := cb_some E
    refine r_pick (by rfl : lpick [(0, .ref p)] [0] = _) (t_x9_proceed_l8_r X hl0 hr hnm _ _ _ _ _ e9 ?_)
    refine r_aload_n X 0 dX9_proceed_47 rfl rfl ?_
    refine r_aload_n X 0 dX9_proceed_48 rfl rfl ?_
    obtain ⟨x10, e11, E⟩ := gb_some E
    refine r_getI X dX9_proceed_49 f_X9_154 e11 ?_
    obtain ⟨g12, e13, E⟩ := gb_some E
    refine r_put X dX9_proceed_52 f_X9_151 rfl rfl e13 ?_
    refine r_aload_n X 0 dX9_proceed_55 rfl rfl ?_
    refine r_aload_n X 0 dX9_proceed_56 rfl rfl ?_
    obtain ⟨x14, e15, E⟩ := gb_some E
    refine r_getI X dX9_proceed_57 f_X9_151 e15 ?_
    obtain ⟨u19, e20, E⟩ := gb_some E
    obtain ⟨r16, g17, e18, E⟩ := cb_some E
    refine r_callV0 X hl0 (ci := 9) dX9_proceed_60 y_X9_byteAt m_X9_157 rfl rfl e20 (t_x9_byteAt (l := l) (G := G) e18) rfl rfl (Nat.le_of_ble_eq_true rfl) (by decide) ?_
    refine r_istore_n X 1 (L1 := [(1, .int r16), (0, .ref p)]) dX9_proceed_63 rfl (by decide) rfl ?_
    refine r_iload_n X 1 dX9_proceed_64 rfl rfl ?_
    refine r_iconst X (v := (-1)) dX9_proceed_65 (by decide) ?_
    refine r_icmp_ne X 75 dX9_proceed_66 (by decide) (fun c21 => ?_) (fun c21 => ?_)
    · rw [if_neg c21] at E
      refine r_aload_n X 0 dX9_proceed_75 rfl rfl ?_
      refine r_dup X dX9_proceed_76 rfl ?_
      obtain ⟨x22, e23, E⟩ := gb_some E
      refine r_getI X dX9_proceed_77 f_X9_154 e23 ?_
      refine r_iconst X (v := 1) dX9_proceed_80 (by decide) ?_
      refine r_iadd X dX9_proceed_81 ?_
      obtain ⟨g24, e25, E⟩ := gb_some E
      refine r_put X dX9_proceed_82 f_X9_154 rfl rfl e25 ?_
      refine r_iload_n X 1 dX9_proceed_85 rfl rfl ?_
      obtain ⟨r26, g27, e28, E⟩ := cb_some E
      refine r_callS0 X hl0 dX9_proceed_86 y_X9_isLetter m_X9_163 (t_x9_isLetter (l := l) (G := G) e28) rfl rfl (Nat.le_of_ble_eq_true rfl) (by decide) ?_
      refine r_if_eq X 124 dX9_proceed_89 (by decide) (fun c29 => ?_) (fun c29 => ?_)
      · rw [if_pos c29] at E
        refine r_iload_n X 1 dX9_proceed_124 rfl rfl ?_
        obtain ⟨r30, g31, e32, E⟩ := cb_some E
        refine r_callS0 X hl0 dX9_proceed_125 y_X9_isDigit m_X9_166 (t_x9_isDigit (l := l) (G := G) e32) rfl rfl (Nat.le_of_ble_eq_true rfl) (by decide) ?_
        refine r_if_eq X 199 dX9_proceed_128 (by decide) (fun c33 => ?_) (fun c33 => ?_)
        · rw [if_pos c33] at E
          refine r_aload_n X 0 dX9_proceed_199 rfl rfl ?_
          refine r_iload_n X 1 dX9_proceed_200 rfl rfl ?_
          refine r_bipush X (v := 59) dX9_proceed_201 (by decide) ?_
          refine r_icmp_ne X 210 dX9_proceed_203 (by decide) (fun c34 => ?_) (fun c34 => ?_)
          · rw [if_neg c34] at E
            refine r_iconst X (v := 4) dX9_proceed_210 (by decide) ?_
            obtain ⟨g35, e36, E⟩ := gb_some E
            refine r_put X dX9_proceed_211 f_X9_160 rfl rfl e36 ?_
            cases E
            exact r_vret X hr dX9_proceed_214 (by decide) (by decide)
          · rw [if_pos c34] at E
            refine r_iconst X (v := 3) dX9_proceed_206 (by decide) ?_
            refine r_goto X 211 dX9_proceed_207 (by decide) ?_
            obtain ⟨g37, e38, E⟩ := gb_some E
            refine r_put X dX9_proceed_211 f_X9_160 rfl rfl e38 ?_
            cases E
            exact r_vret X hr dX9_proceed_214 (by decide) (by decide)
        · rw [if_neg c33] at E
          refine r_aload_n X 0 dX9_proceed_131 rfl rfl ?_
          refine r_iconst X (v := 2) dX9_proceed_132 (by decide) ?_
          obtain ⟨g39, e40, E⟩ := gb_some E
          refine r_put X dX9_proceed_133 f_X9_160 rfl rfl e40 ?_
          refine r_aload_n X 0 dX9_proceed_136 rfl rfl ?_
          refine r_iload_n X 1 dX9_proceed_137 rfl rfl ?_
          refine r_bipush X (v := 48) dX9_proceed_138 (by decide) ?_
          refine r_isub X dX9_proceed_140 ?_
          obtain ⟨g41, e42, E⟩ := gb_some E
          refine r_put X dX9_proceed_141 f_X9_169 rfl rfl e42 ?_
          obtain ⟨t43, g44, e45, E⟩ := cb_some E
          refine r_pick (by rfl : lpick [(1, .int r16), (0, .ref p)] [1] = _) (t_x9_proceed_l144_r X hl0 hr hnm _ _ _ _ _ e45 ?_)
          cases E
          exact r_vret X hr dX9_proceed_214 (by decide) (by decide)
      · rw [if_neg c29] at E
        refine r_aload_n X 0 dX9_proceed_92 rfl rfl ?_
        refine r_iconst X (v := 1) dX9_proceed_93 (by decide) ?_
        obtain ⟨g46, e47, E⟩ := gb_some E
        refine r_put X dX9_proceed_94 f_X9_160 rfl rfl e47 ?_
        obtain ⟨t48, g49, e50, E⟩ := cb_some E
        refine r_pick (by rfl : lpick [(1, .int r16), (0, .ref p)] [1] = _) (t_x9_proceed_l97_r X hl0 hr hnm _ _ _ _ _ e50 ?_)
        cases E
        exact r_vret X hr dX9_proceed_214 (by decide) (by decide)
    · rw [if_pos c21] at E
      refine r_aload_n X 0 dX9_proceed_69 rfl rfl ?_
      refine r_iconst X (v := 0) dX9_proceed_70 (by decide) ?_
      obtain ⟨g51, e52, E⟩ := gb_some E
      refine r_put X dX9_proceed_71 f_X9_160 rfl rfl e52 ?_
      cases E
      exact r_vret X hr dX9_proceed_74 (by decide) (by decide)
  · rw [if_pos c6] at E
    cases E
    exact r_vret X hr dX9_proceed_7 (by decide) (by decide)
theorem t_x9_proceed {l : Launch} {G : GG} {p : Nat} {g : AH} {r : Unit} {g1 : AH} (E : x9_proceed p g = some (r, g1)) : Ct l G yX9_proceed cX9_proceed 2 none ⟨3, 0, 0, 150⟩ [.ref p] g none g1 :=
  ct_of (L0 := [(0, .ref p)]) y_X9_proceed rfl (Nat.le_of_ble_eq_true rfl) fun M hl0 X hr hnm => t_x9_proceed_b X hl0 hr hnm E
set_option maxHeartbeats 4000000 in
set_option maxRecDepth 100000 in
theorem t_x9_startText_b {l : Launch} {G : GG} {M : MC} (X : CX M G cX9_startText 1 RX9 ⟨4, 0, 0, 171⟩) (hl0 : M.2.1 = l) (hr : (mM M).sig.returnType = none) (hnm : (mM M).name = yX9_startText.name) {p : Nat} {g : AH} {r : Unit} {g1 : AH} (E : x9_startText p g = some (r, g1)) : WW M G 1 (RQ M G none g1 0 0) 0 0 g 0 [(0, .ref p)] [] := by
  unfold x9_startText at E
  refine r_aload_n X 0 dX9_startText_0 rfl rfl ?_
  refine r_iconst X (v := 0) dX9_startText_1 (by decide) ?_
  obtain ⟨g1, e2, E⟩ := gb_some E
  refine r_put X dX9_startText_2 f_X9_144 rfl rfl e2 ?_
  refine r_aload_n X 0 dX9_startText_5 rfl rfl ?_
  refine r_iconst X (v := (-1)) dX9_startText_6 (by decide) ?_
  obtain ⟨g3, e4, E⟩ := gb_some E
  refine r_put X dX9_startText_7 f_X9_33 rfl rfl e4 ?_
  refine r_aload_n X 0 dX9_startText_10 rfl rfl ?_
  refine r_iconst X (v := 0) dX9_startText_11 (by decide) ?_
  obtain ⟨g5, e6, E⟩ := gb_some E
  refine r_put X dX9_startText_12 f_X9_154 rfl rfl e6 ?_
  refine r_aload_n X 0 dX9_startText_15 rfl rfl ?_
  refine r_iconst X (v := 0) dX9_startText_16 (by decide) ?_
  obtain ⟨g7, e8, E⟩ := gb_some E
  refine r_put X dX9_startText_17 f_X9_173 rfl rfl e8 ?_
  refine r_aload_n X 0 dX9_startText_20 rfl rfl ?_
  obtain ⟨u12, e13, E⟩ := gb_some E
  obtain ⟨r9, g10, e11, E⟩ := cb_some E
  refine r_callV0 X hl0 (ci := 9) dX9_startText_21 y_X9_proceed m_X9_176 rfl rfl e13 (t_x9_proceed (l := l) (G := G) e11) rfl rfl (Nat.le_of_ble_eq_true rfl) (by decide) ?_
  cases E
  exact r_vret X hr dX9_startText_24 (by decide) (by decide)
theorem t_x9_startText {l : Launch} {G : GG} {p : Nat} {g : AH} {r : Unit} {g1 : AH} (E : x9_startText p g = some (r, g1)) : Ct l G yX9_startText cX9_startText 1 none ⟨4, 0, 0, 171⟩ [.ref p] g none g1 :=
  ct_of (L0 := [(0, .ref p)]) y_X9_startText rfl (Nat.le_of_ble_eq_true rfl) fun M hl0 X hr hnm => t_x9_startText_b X hl0 hr hnm E
set_option maxHeartbeats 4000000 in
set_option maxRecDepth 100000 in
theorem t_x9_isWord_l28 {l : Launch} {G : GG} {M : MC} (X : CX M G cX9_isWord 3 RX9 ⟨6, 0, 0, 200⟩) (hl0 : M.2.1 = l) (hr : (mM M).sig.returnType = (some .boolean)) (hnm : (mM M).name = yX9_isWord.name) {Q : State → Prop} {kc ks : Nat} {s9 : ((Int32) ⊕ ((Unit) ⊕ Int32))} {g1 : AH} {a0 : Nat} {a1 : Nat} {s0 : Int32} (hc : ∀ s1, s9 = .inl s1 → WW M G 3 Q kc ks g1 28 [(0, .ref a0), (1, .ref (G.2.2.1 a1)), (2, .int s1)] []) (hx : ∀ t, s9 = .inr t → Sum.elim (fun t1 => WW M G 3 Q kc ks g1 62 [] []) (fun t2 => ∃ mc ms : Nat, kc ≤ mc ∧ ks ≤ ms ∧ Q = RQ M G (some (.int t2)) g1 mc ms) t) {g : AH} (E : x9_isWord_l28 a0 a1 s0 g = some (s9, g1)) : WW M G 3 Q kc ks g 28 [(0, .ref a0), (1, .ref (G.2.2.1 a1)), (2, .int s0)] [] := by
  unfold x9_isWord_l28 at E
  refine r_iload_n X 2 dX9_isWord_28 rfl rfl ?_
  refine r_aload_n X 1 dX9_isWord_29 rfl rfl ?_
  obtain ⟨x1, e2, E⟩ := gb_some E
  refine r_strLen X hl0 dX9_isWord_30 m_X9_179 e2 (Nat.le_of_ble_eq_true rfl) (by decide) ?_
  refine r_icmp_ge X 62 dX9_isWord_33 (by decide) (fun c3 => ?_) (fun c3 => ?_)
  · rw [if_pos c3] at E
    cases E
    exact r_pick (by rfl : lpick [(0, .ref a0), (1, .ref (G.2.2.1 a1)), (2, .int s0)] [] = _) (hx _ rfl)
  · rw [if_neg c3] at E
    refine r_aload_n X 0 dX9_isWord_36 rfl rfl ?_
    refine r_aload_n X 0 dX9_isWord_37 rfl rfl ?_
    obtain ⟨x4, e5, E⟩ := gb_some E
    refine r_getI X dX9_isWord_38 f_X9_151 e5 ?_
    refine r_iload_n X 2 dX9_isWord_41 rfl rfl ?_
    refine r_iadd X dX9_isWord_42 ?_
    obtain ⟨u9, e10, E⟩ := gb_some E
    obtain ⟨r6, g7, e8, E⟩ := cb_some E
    refine r_callV0 X hl0 (ci := 9) dX9_isWord_43 y_X9_byteAt m_X9_157 rfl rfl e10 (t_x9_byteAt (l := l) (G := G) e8) rfl rfl (Nat.le_of_ble_eq_true rfl) (by decide) ?_
    refine r_aload_n X 1 dX9_isWord_46 rfl rfl ?_
    refine r_iload_n X 2 dX9_isWord_47 rfl rfl ?_
    obtain ⟨x11, e12, E⟩ := gb_some E
    refine r_strAt X hl0 dX9_isWord_48 m_X9_184 e12 (Nat.le_of_ble_eq_true rfl) (by decide) ?_
    refine r_icmp_eq X 56 dX9_isWord_51 (by decide) (fun c13 => ?_) (fun c13 => ?_)
    · rw [if_pos c13] at E
      refine r_iinc X (v := (s0 + 1)) (L1 := [(2, .int (s0 + 1)), (0, .ref a0), (1, .ref (G.2.2.1 a1))]) dX9_isWord_56 rfl rfl (by decide) rfl ?_
      refine r_goto X 28 dX9_isWord_59 (by decide) ?_
      cases E
      exact r_pick (by rfl : lpick [(2, .int (s0 + 1)), (0, .ref a0), (1, .ref (G.2.2.1 a1))] [1, 2, 0] = _) (hc _ rfl)
    · rw [if_neg c13] at E
      refine r_iconst X (v := 0) dX9_isWord_54 (by decide) ?_
      cases E
      obtain ⟨mc9, ms9, h91, h92, rfl⟩ := hx _ rfl
      exact r_zret X hr (Or.inl rfl) dX9_isWord_55 h91 h92
set_option maxHeartbeats 4000000 in
theorem t_x9_isWord_l28_r {l : Launch} {G : GG} {M : MC} (X : CX M G cX9_isWord 3 RX9 ⟨6, 0, 0, 200⟩) (hl0 : M.2.1 = l) (hr : (mM M).sig.returnType = (some .boolean)) (hnm : (mM M).name = yX9_isWord.name) {Q : State → Prop} {kc ks : Nat} {a0 : Nat} {a1 : Nat} : ∀ (n : Nat) (s0 : Int32) (g : AH) (t : ((Unit) ⊕ Int32)) (g1 : AH), loopX (x9_isWord_l28 a0 a1) n s0 g = some (t, g1) → Sum.elim (fun t1 => WW M G 3 Q kc ks g1 62 [] []) (fun t2 => ∃ mc ms : Nat, kc ≤ mc ∧ ks ≤ ms ∧ Q = RQ M G (some (.int t2)) g1 mc ms) t → WW M G 3 Q kc ks g 28 [(0, .ref a0), (1, .ref (G.2.2.1 a1)), (2, .int s0)] [] :=
  loop_cps (K := fun t g1 => Sum.elim (fun t1 => WW M G 3 Q kc ks g1 62 [] []) (fun t2 => ∃ mc ms : Nat, kc ≤ mc ∧ ks ≤ ms ∧ Q = RQ M G (some (.int t2)) g1 mc ms) t) (fun _ s0 g => WW M G 3 Q kc ks g 28 [(0, .ref a0), (1, .ref (G.2.2.1 a1)), (2, .int s0)] []) (fun n s0 g st g1 E hc hx => t_x9_isWord_l28 X hl0 hr hnm hc hx E)
set_option maxHeartbeats 4000000 in
set_option maxRecDepth 100000 in
theorem t_x9_isWord_b {l : Launch} {G : GG} {M : MC} (X : CX M G cX9_isWord 3 RX9 ⟨6, 0, 0, 200⟩) (hl0 : M.2.1 = l) (hr : (mM M).sig.returnType = (some .boolean)) (hnm : (mM M).name = yX9_isWord.name) {p : Nat} {b0 : Nat} {g : AH} {r : Int32} {g1 : AH} (E : x9_isWord p b0 g = some (r, g1)) : WW M G 3 (RQ M G (some (.int r)) g1 0 0) 0 0 g 0 [(0, .ref p), (1, .ref (G.2.2.1 b0))] [] := by
  unfold x9_isWord at E
  refine r_aload_n X 0 dX9_isWord_0 rfl rfl ?_
  obtain ⟨x1, e2, E⟩ := gb_some E
  refine r_getI X dX9_isWord_1 f_X9_160 e2 ?_
  refine r_iconst X (v := 1) dX9_isWord_4 (by decide) ?_
  refine r_icmp_ne X 24 dX9_isWord_5 (by decide) (fun c3 => ?_) (fun c3 => ?_)
  · rw [if_neg c3] at E
    refine r_iconst X (v := 0) dX9_isWord_24 (by decide) ?_
    cases E
    exact r_zret X hr (Or.inl rfl) dX9_isWord_25 (by decide) (by decide)
  · rw [if_pos c3] at E
    refine r_aload_n X 0 dX9_isWord_8 rfl rfl ?_
    obtain ⟨x4, e5, E⟩ := gb_some E
    refine r_getI X dX9_isWord_9 f_X9_154 e5 ?_
    refine r_aload_n X 0 dX9_isWord_12 rfl rfl ?_
    obtain ⟨x6, e7, E⟩ := gb_some E
    refine r_getI X dX9_isWord_13 f_X9_151 e7 ?_
    refine r_isub X dX9_isWord_16 ?_
    refine r_aload_n X 1 dX9_isWord_17 rfl rfl ?_
    obtain ⟨x8, e9, E⟩ := gb_some E
    refine r_strLen X hl0 dX9_isWord_18 m_X9_179 e9 (Nat.le_of_ble_eq_true rfl) (by decide) ?_
    refine r_icmp_eq X 26 dX9_isWord_21 (by decide) (fun c10 => ?_) (fun c10 => ?_)
    · rw [if_pos c10] at E
      refine r_iconst X (v := 0) dX9_isWord_26 (by decide) ?_
      refine r_istore_n X 2 (L1 := [(2, .int 0), (0, .ref p), (1, .ref (G.2.2.1 b0))]) dX9_isWord_27 rfl (by decide) rfl ?_
      obtain ⟨t11, g12, e13, E⟩ := cb_some E
      rcases t11 with t14 | t15
      · rw [Sum.elim_inl] at E
        refine r_pick (by rfl : lpick [(2, .int 0), (0, .ref p), (1, .ref (G.2.2.1 b0))] [1, 2, 0] = _) (t_x9_isWord_l28_r X hl0 hr hnm _ _ _ _ _ e13 ?_)
        refine r_iconst X (v := 1) dX9_isWord_62 (by decide) ?_
        cases E
        exact r_zret X hr (Or.inr rfl) dX9_isWord_63 (by decide) (by decide)
      · rw [Sum.elim_inr] at E
        cases E
        exact r_pick (by rfl : lpick [(2, .int 0), (0, .ref p), (1, .ref (G.2.2.1 b0))] [1, 2, 0] = _) (t_x9_isWord_l28_r X hl0 hr hnm _ _ _ _ _ e13 ⟨_, _, by decide, by decide, rfl⟩)
    · rw [if_neg c10] at E
      refine r_iconst X (v := 0) dX9_isWord_24 (by decide) ?_
      cases E
      exact r_zret X hr (Or.inl rfl) dX9_isWord_25 (by decide) (by decide)
theorem t_x9_isWord {l : Launch} {G : GG} {p : Nat} {b0 : Nat} {g : AH} {r : Int32} {g1 : AH} (E : x9_isWord p b0 g = some (r, g1)) : Ct l G yX9_isWord cX9_isWord 3 (some .boolean) ⟨6, 0, 0, 200⟩ [.ref p, .ref (G.2.2.1 b0)] g (some (.int r)) g1 :=
  ct_of (L0 := [(0, .ref p), (1, .ref (G.2.2.1 b0))]) y_X9_isWord rfl (Nat.le_of_ble_eq_true rfl) fun M hl0 X hr hnm => t_x9_isWord_b X hl0 hr hnm E
set_option maxHeartbeats 4000000 in
set_option maxRecDepth 100000 in
theorem t_x9_parseEnd_j14 {l : Launch} {G : GG} {M : MC} (X : CX M G cX9_parseEnd 1 RX9 ⟨4, 0, 0, 171⟩) (hl0 : M.2.1 = l) (hr : (mM M).sig.returnType = none) (hnm : (mM M).name = yX9_parseEnd.name) {a0 : Nat} {s0 : Int32} {s1 : Nat} {g : AH} {r : Unit} {g1 : AH} (E : x9_parseEnd_j14 a0 s0 s1 g = some (r, g1)) : WW M G 1 (RQ M G none g1 0 0) 0 0 g 14 [(0, .ref a0)] [.int s0, .ref s1] := by
  unfold x9_parseEnd_j14 at E
  refine r_iconst X (v := 1) dX9_parseEnd_14 (by decide) ?_
  obtain ⟨u4, e5, E⟩ := gb_some E
  obtain ⟨r1, g2, e3, E⟩ := cb_some E
  refine r_callV0 X hl0 (ci := 9) dX9_parseEnd_15 y_X9_require m_X9_188 rfl rfl e5 (t_x9_require (l := l) (G := G) e3) rfl rfl (Nat.le_of_ble_eq_true rfl) (by decide) ?_
  refine r_aload_n X 0 dX9_parseEnd_18 rfl rfl ?_
  obtain ⟨u9, e10, E⟩ := gb_some E
  obtain ⟨r6, g7, e8, E⟩ := cb_some E
  refine r_callV0 X hl0 (ci := 9) dX9_parseEnd_19 y_X9_proceed m_X9_176 rfl rfl e10 (t_x9_proceed (l := l) (G := G) e8) rfl rfl (Nat.le_of_ble_eq_true rfl) (by decide) ?_
  cases E
  exact r_vret X hr dX9_parseEnd_22 (by decide) (by decide)
set_option maxHeartbeats 4000000 in
set_option maxRecDepth 100000 in
theorem t_x9_parseEnd_b {l : Launch} {G : GG} {M : MC} (X : CX M G cX9_parseEnd 1 RX9 ⟨4, 0, 0, 171⟩) (hl0 : M.2.1 = l) (hr : (mM M).sig.returnType = none) (hnm : (mM M).name = yX9_parseEnd.name) {p : Nat} {g : AH} {r : Unit} {g1 : AH} (E : x9_parseEnd p g = some (r, g1)) : WW M G 1 (RQ M G none g1 0 0) 0 0 g 0 [(0, .ref p)] [] := by
  unfold x9_parseEnd at E
  refine r_aload_n X 0 dX9_parseEnd_0 rfl rfl ?_
  refine r_aload_n X 0 dX9_parseEnd_1 rfl rfl ?_
  obtain ⟨x1, e2, E⟩ := gb_some E
  refine r_getI X dX9_parseEnd_2 f_X9_160 e2 ?_
  refine r_iconst X (v := 3) dX9_parseEnd_5 (by decide) ?_
  refine r_icmp_ne X 13 dX9_parseEnd_6 (by decide) (fun c3 => ?_) (fun c3 => ?_)
  · rw [if_neg c3] at E
    refine r_iconst X (v := 0) dX9_parseEnd_13 (by decide) ?_
    exact r_pick (by rfl : lpick [(0, .ref p)] [0] = _) (t_x9_parseEnd_j14 X hl0 hr hnm E)
  · rw [if_pos c3] at E
    refine r_iconst X (v := 1) dX9_parseEnd_9 (by decide) ?_
    refine r_goto X 14 dX9_parseEnd_10 (by decide) ?_
    exact r_pick (by rfl : lpick [(0, .ref p)] [0] = _) (t_x9_parseEnd_j14 X hl0 hr hnm E)
theorem t_x9_parseEnd {l : Launch} {G : GG} {p : Nat} {g : AH} {r : Unit} {g1 : AH} (E : x9_parseEnd p g = some (r, g1)) : Ct l G yX9_parseEnd cX9_parseEnd 1 none ⟨4, 0, 0, 171⟩ [.ref p] g none g1 :=
  ct_of (L0 := [(0, .ref p)]) y_X9_parseEnd rfl (Nat.le_of_ble_eq_true rfl) fun M hl0 X hr hnm => t_x9_parseEnd_b X hl0 hr hnm E
set_option maxHeartbeats 4000000 in
set_option maxRecDepth 100000 in
theorem t_x9_parseNumber_j63 {l : Launch} {G : GG} {M : MC} (X : CX M G cX9_parseNumber 4 RX9 ⟨4, 0, 0, 171⟩) (hl0 : M.2.1 = l) (hr : (mM M).sig.returnType = (some .int)) (hnm : (mM M).name = yX9_parseNumber.name) {a0 : Nat} {s0 : Int32} {g : AH} {r : Int32} {g1 : AH} (E : x9_parseNumber_j63 a0 s0 g = some (r, g1)) : WW M G 4 (RQ M G (some (.int r)) g1 0 0) 0 0 g 63 [(0, .ref a0)] [.int s0] := by
  unfold x9_parseNumber_j63 at E
  refine r_istore_n X 3 (L1 := [(3, .int s0), (0, .ref a0)]) dX9_parseNumber_63 rfl (by decide) rfl ?_
  refine r_aload_n X 0 dX9_parseNumber_64 rfl rfl ?_
  obtain ⟨u4, e5, E⟩ := gb_some E
  obtain ⟨r1, g2, e3, E⟩ := cb_some E
  refine r_callV0 X hl0 (ci := 9) dX9_parseNumber_65 y_X9_proceed m_X9_176 rfl rfl e5 (t_x9_proceed (l := l) (G := G) e3) rfl rfl (Nat.le_of_ble_eq_true rfl) (by decide) ?_
  refine r_iload_n X 3 dX9_parseNumber_68 rfl rfl ?_
  cases E
  exact r_iret X hr dX9_parseNumber_69 (by decide) (by decide)
set_option maxHeartbeats 4000000 in
set_option maxRecDepth 100000 in
theorem t_x9_parseNumber_j44 {l : Launch} {G : GG} {M : MC} (X : CX M G cX9_parseNumber 4 RX9 ⟨4, 0, 0, 171⟩) (hl0 : M.2.1 = l) (hr : (mM M).sig.returnType = (some .int)) (hnm : (mM M).name = yX9_parseNumber.name) {a0 : Nat} {a1 : Int32} {s0 : Int32} {s1 : Nat} {g : AH} {r : Int32} {g1 : AH} (E : x9_parseNumber_j44 a0 a1 s0 s1 g = some (r, g1)) : WW M G 4 (RQ M G (some (.int r)) g1 0 0) 0 0 g 44 [(0, .ref a0), (1, .int a1)] [.int s0, .ref s1] := by
  unfold x9_parseNumber_j44 at E
  refine r_iconst X (v := 2) dX9_parseNumber_44 (by decide) ?_
  obtain ⟨u4, e5, E⟩ := gb_some E
  obtain ⟨r1, g2, e3, E⟩ := cb_some E
  refine r_callV0 X hl0 (ci := 9) dX9_parseNumber_45 y_X9_require m_X9_188 rfl rfl e5 (t_x9_require (l := l) (G := G) e3) rfl rfl (Nat.le_of_ble_eq_true rfl) (by decide) ?_
  refine r_aload_n X 0 dX9_parseNumber_48 rfl rfl ?_
  obtain ⟨u9, e10, E⟩ := gb_some E
  obtain ⟨r6, g7, e8, E⟩ := cb_some E
  refine r_callV0 X hl0 (ci := 9) dX9_parseNumber_49 y_X9_isFine m_X9_147 rfl rfl e10 (t_x9_isFine (l := l) (G := G) e8) rfl rfl (Nat.le_of_ble_eq_true rfl) (by decide) ?_
  refine r_if_eq X 62 dX9_parseNumber_52 (by decide) (fun c11 => ?_) (fun c11 => ?_)
  · rw [if_pos c11] at E
    refine r_iload_n X 1 dX9_parseNumber_62 rfl rfl ?_
    exact r_pick (by rfl : lpick [(0, .ref a0), (1, .int a1)] [0] = _) (t_x9_parseNumber_j63 X hl0 hr hnm E)
  · rw [if_neg c11] at E
    refine r_aload_n X 0 dX9_parseNumber_55 rfl rfl ?_
    obtain ⟨x12, e13, E⟩ := gb_some E
    refine r_getI X dX9_parseNumber_56 f_X9_169 e13 ?_
    refine r_goto X 63 dX9_parseNumber_59 (by decide) ?_
    exact r_pick (by rfl : lpick [(0, .ref a0), (1, .int a1)] [0] = _) (t_x9_parseNumber_j63 X hl0 hr hnm E)
set_option maxHeartbeats 4000000 in
set_option maxRecDepth 100000 in
theorem t_x9_parseNumber_j39 {l : Launch} {G : GG} {M : MC} (X : CX M G cX9_parseNumber 4 RX9 ⟨4, 0, 0, 171⟩) (hl0 : M.2.1 = l) (hr : (mM M).sig.returnType = (some .int)) (hnm : (mM M).name = yX9_parseNumber.name) {a0 : Nat} {a1 : Int32} {s0 : Nat} {g : AH} {r : Int32} {g1 : AH} (E : x9_parseNumber_j39 a0 a1 s0 g = some (r, g1)) : WW M G 4 (RQ M G (some (.int r)) g1 0 0) 0 0 g 39 [(0, .ref a0), (1, .int a1)] [.ref s0] := by
  unfold x9_parseNumber_j39 at E
  refine r_iconst X (v := 1) dX9_parseNumber_39 (by decide) ?_
  refine r_goto X 44 dX9_parseNumber_40 (by decide) ?_
  exact r_pick (by rfl : lpick [(0, .ref a0), (1, .int a1)] [0, 1] = _) (t_x9_parseNumber_j44 X hl0 hr hnm E)
set_option maxHeartbeats 4000000 in
set_option maxRecDepth 100000 in
theorem t_x9_parseNumber_j14 {l : Launch} {G : GG} {M : MC} (X : CX M G cX9_parseNumber 4 RX9 ⟨4, 0, 0, 171⟩) (hl0 : M.2.1 = l) (hr : (mM M).sig.returnType = (some .int)) (hnm : (mM M).name = yX9_parseNumber.name) {a0 : Nat} {a1 : Int32} {a2 : Int32} {s0 : Int32} {s1 : Nat} {g : AH} {r : Int32} {g1 : AH} (E : x9_parseNumber_j14 a0 a1 a2 s0 s1 g = some (r, g1)) : WW M G 4 (RQ M G (some (.int r)) g1 0 0) 0 0 g 14 [(0, .ref a0), (1, .int a1), (2, .int a2)] [.int s0, .ref s1] := by
  unfold x9_parseNumber_j14 at E
  refine r_iconst X (v := 1) dX9_parseNumber_14 (by decide) ?_
  obtain ⟨u4, e5, E⟩ := gb_some E
  obtain ⟨r1, g2, e3, E⟩ := cb_some E
  refine r_callV0 X hl0 (ci := 9) dX9_parseNumber_15 y_X9_require m_X9_188 rfl rfl e5 (t_x9_require (l := l) (G := G) e3) rfl rfl (Nat.le_of_ble_eq_true rfl) (by decide) ?_
  refine r_aload_n X 0 dX9_parseNumber_18 rfl rfl ?_
  refine r_aload_n X 0 dX9_parseNumber_19 rfl rfl ?_
  obtain ⟨x6, e7, E⟩ := gb_some E
  refine r_getI X dX9_parseNumber_20 f_X9_160 e7 ?_
  refine r_iconst X (v := 2) dX9_parseNumber_23 (by decide) ?_
  refine r_icmp_ne X 39 dX9_parseNumber_24 (by decide) (fun c8 => ?_) (fun c8 => ?_)
  · rw [if_neg c8] at E
    exact r_pick (by rfl : lpick [(0, .ref a0), (1, .int a1), (2, .int a2)] [0, 1] = _) (t_x9_parseNumber_j39 X hl0 hr hnm E)
  · rw [if_pos c8] at E
    refine r_aload_n X 0 dX9_parseNumber_27 rfl rfl ?_
    obtain ⟨x9, e10, E⟩ := gb_some E
    refine r_getI X dX9_parseNumber_28 f_X9_169 e10 ?_
    refine r_iload_n X 1 dX9_parseNumber_31 rfl rfl ?_
    refine r_iload_n X 2 dX9_parseNumber_32 rfl rfl ?_
    obtain ⟨r11, g12, e13, E⟩ := cb_some E
    refine r_callS0 X hl0 dX9_parseNumber_33 y_X9_isBetween m_X9_68 (t_x9_isBetween (l := l) (G := G) e13) rfl rfl (Nat.le_of_ble_eq_true rfl) (by decide) ?_
    refine r_if_eq X 43 dX9_parseNumber_36 (by decide) (fun c14 => ?_) (fun c14 => ?_)
    · rw [if_pos c14] at E
      refine r_iconst X (v := 0) dX9_parseNumber_43 (by decide) ?_
      exact r_pick (by rfl : lpick [(0, .ref a0), (1, .int a1), (2, .int a2)] [0, 1] = _) (t_x9_parseNumber_j44 X hl0 hr hnm E)
    · rw [if_neg c14] at E
      exact r_pick (by rfl : lpick [(0, .ref a0), (1, .int a1), (2, .int a2)] [0, 1] = _) (t_x9_parseNumber_j39 X hl0 hr hnm E)
set_option maxHeartbeats 4000000 in
set_option maxRecDepth 100000 in
theorem t_x9_parseNumber_b {l : Launch} {G : GG} {M : MC} (X : CX M G cX9_parseNumber 4 RX9 ⟨4, 0, 0, 171⟩) (hl0 : M.2.1 = l) (hr : (mM M).sig.returnType = (some .int)) (hnm : (mM M).name = yX9_parseNumber.name) {p : Nat} {b0 : Int32} {b1 : Int32} {g : AH} {r : Int32} {g1 : AH} (E : x9_parseNumber p b0 b1 g = some (r, g1)) : WW M G 4 (RQ M G (some (.int r)) g1 0 0) 0 0 g 0 [(0, .ref p), (1, .int b0), (2, .int b1)] [] := by
  unfold x9_parseNumber at E
  refine r_aload_n X 0 dX9_parseNumber_0 rfl rfl ?_
  refine r_aload_n X 0 dX9_parseNumber_1 rfl rfl ?_
  obtain ⟨x1, e2, E⟩ := gb_some E
  refine r_getI X dX9_parseNumber_2 f_X9_160 e2 ?_
  refine r_iconst X (v := 2) dX9_parseNumber_5 (by decide) ?_
  refine r_icmp_ne X 13 dX9_parseNumber_6 (by decide) (fun c3 => ?_) (fun c3 => ?_)
  · rw [if_neg c3] at E
    refine r_iconst X (v := 0) dX9_parseNumber_13 (by decide) ?_
    exact r_pick (by rfl : lpick [(0, .ref p), (1, .int b0), (2, .int b1)] [0, 1, 2] = _) (t_x9_parseNumber_j14 X hl0 hr hnm E)
  · rw [if_pos c3] at E
    refine r_iconst X (v := 1) dX9_parseNumber_9 (by decide) ?_
    refine r_goto X 14 dX9_parseNumber_10 (by decide) ?_
    exact r_pick (by rfl : lpick [(0, .ref p), (1, .int b0), (2, .int b1)] [0, 1, 2] = _) (t_x9_parseNumber_j14 X hl0 hr hnm E)
theorem t_x9_parseNumber {l : Launch} {G : GG} {p : Nat} {b0 : Int32} {b1 : Int32} {g : AH} {r : Int32} {g1 : AH} (E : x9_parseNumber p b0 b1 g = some (r, g1)) : Ct l G yX9_parseNumber cX9_parseNumber 4 (some .int) ⟨4, 0, 0, 171⟩ [.ref p, .int b0, .int b1] g (some (.int r)) g1 :=
  ct_of (L0 := [(0, .ref p), (1, .int b0), (2, .int b1)]) y_X9_parseNumber rfl (Nat.le_of_ble_eq_true rfl) fun M hl0 X hr hnm => t_x9_parseNumber_b X hl0 hr hnm E
set_option maxHeartbeats 4000000 in
set_option maxRecDepth 100000 in
theorem t_x9_parseRange_b {l : Launch} {G : GG} {M : MC} (X : CX M G cX9_parseRange 3 RX9 ⟨5, 0, 0, 194⟩) (hl0 : M.2.1 = l) (hr : (mM M).sig.returnType = (some .int)) (hnm : (mM M).name = yX9_parseRange.name) {p : Nat} {b0 : Int32} {b1 : Int32} {g : AH} {r : Int32} {g1 : AH} (E : x9_parseRange p b0 b1 g = some (r, g1)) : WW M G 3 (RQ M G (some (.int r)) g1 0 0) 0 0 g 0 [(0, .ref p), (1, .int b0), (2, .int b1)] [] := by
  unfold x9_parseRange at E
  refine r_aload_n X 0 dX9_parseRange_0 rfl rfl ?_
  obtain ⟨u4, e5, E⟩ := gb_some E
  obtain ⟨r1, g2, e3, E⟩ := cb_some E
  refine r_callV0 X hl0 (ci := 9) dX9_parseRange_1 y_X9_isFine m_X9_147 rfl rfl e5 (t_x9_isFine (l := l) (G := G) e3) rfl rfl (Nat.le_of_ble_eq_true rfl) (by decide) ?_
  refine r_if_eq X 16 dX9_parseRange_4 (by decide) (fun c6 => ?_) (fun c6 => ?_)
  · rw [if_pos c6] at E
    refine r_iload_n X 1 dX9_parseRange_16 rfl rfl ?_
    cases E
    exact r_iret X hr dX9_parseRange_17 (by decide) (by decide)
  · rw [if_neg c6] at E
    refine r_aload_n X 0 dX9_parseRange_7 rfl rfl ?_
    refine r_iload_n X 1 dX9_parseRange_8 rfl rfl ?_
    refine r_iload_n X 2 dX9_parseRange_9 rfl rfl ?_
    obtain ⟨u10, e11, E⟩ := gb_some E
    obtain ⟨r7, g8, e9, E⟩ := cb_some E
    refine r_callV0 X hl0 (ci := 9) dX9_parseRange_10 y_X9_parseNumber m_X9_192 rfl rfl e11 (t_x9_parseNumber (l := l) (G := G) e9) rfl rfl (Nat.le_of_ble_eq_true rfl) (by decide) ?_
    refine r_goto X 17 dX9_parseRange_13 (by decide) ?_
    cases E
    exact r_iret X hr dX9_parseRange_17 (by decide) (by decide)
theorem t_x9_parseRange {l : Launch} {G : GG} {p : Nat} {b0 : Int32} {b1 : Int32} {g : AH} {r : Int32} {g1 : AH} (E : x9_parseRange p b0 b1 g = some (r, g1)) : Ct l G yX9_parseRange cX9_parseRange 3 (some .int) ⟨5, 0, 0, 194⟩ [.ref p, .int b0, .int b1] g (some (.int r)) g1 :=
  ct_of (L0 := [(0, .ref p), (1, .int b0), (2, .int b1)]) y_X9_parseRange rfl (Nat.le_of_ble_eq_true rfl) fun M hl0 X hr hnm => t_x9_parseRange_b X hl0 hr hnm E
set_option maxHeartbeats 4000000 in
set_option maxRecDepth 100000 in
theorem t_x9_parseWord_b {l : Launch} {G : GG} {M : MC} (X : CX M G cX9_parseWord 2 RX9 ⟨7, 0, 0, 222⟩) (hl0 : M.2.1 = l) (hr : (mM M).sig.returnType = none) (hnm : (mM M).name = yX9_parseWord.name) {p : Nat} {b0 : Nat} {g : AH} {r : Unit} {g1 : AH} (E : x9_parseWord p b0 g = some (r, g1)) : WW M G 2 (RQ M G none g1 0 0) 0 0 g 0 [(0, .ref p), (1, .ref (G.2.2.1 b0))] [] := by
  unfold x9_parseWord at E
  refine r_aload_n X 0 dX9_parseWord_0 rfl rfl ?_
  refine r_aload_n X 0 dX9_parseWord_1 rfl rfl ?_
  refine r_aload_n X 1 dX9_parseWord_2 rfl rfl ?_
  obtain ⟨u4, e5, E⟩ := gb_some E
  obtain ⟨r1, g2, e3, E⟩ := cb_some E
  refine r_callV0 X hl0 (ci := 9) dX9_parseWord_3 y_X9_isWord m_X9_195 rfl rfl e5 (t_x9_isWord (l := l) (G := G) e3) rfl rfl (Nat.le_of_ble_eq_true rfl) (by decide) ?_
  refine r_iconst X (v := 1) dX9_parseWord_6 (by decide) ?_
  obtain ⟨u9, e10, E⟩ := gb_some E
  obtain ⟨r6, g7, e8, E⟩ := cb_some E
  refine r_callV0 X hl0 (ci := 9) dX9_parseWord_7 y_X9_require m_X9_188 rfl rfl e10 (t_x9_require (l := l) (G := G) e8) rfl rfl (Nat.le_of_ble_eq_true rfl) (by decide) ?_
  refine r_aload_n X 0 dX9_parseWord_10 rfl rfl ?_
  obtain ⟨u14, e15, E⟩ := gb_some E
  obtain ⟨r11, g12, e13, E⟩ := cb_some E
  refine r_callV0 X hl0 (ci := 9) dX9_parseWord_11 y_X9_proceed m_X9_176 rfl rfl e15 (t_x9_proceed (l := l) (G := G) e13) rfl rfl (Nat.le_of_ble_eq_true rfl) (by decide) ?_
  cases E
  exact r_vret X hr dX9_parseWord_14 (by decide) (by decide)
theorem t_x9_parseWord {l : Launch} {G : GG} {p : Nat} {b0 : Nat} {g : AH} {r : Unit} {g1 : AH} (E : x9_parseWord p b0 g = some (r, g1)) : Ct l G yX9_parseWord cX9_parseWord 2 none ⟨7, 0, 0, 222⟩ [.ref p, .ref (G.2.2.1 b0)] g none g1 :=
  ct_of (L0 := [(0, .ref p), (1, .ref (G.2.2.1 b0))]) y_X9_parseWord rfl (Nat.le_of_ble_eq_true rfl) fun M hl0 X hr hnm => t_x9_parseWord_b X hl0 hr hnm E
set_option maxHeartbeats 4000000 in
set_option maxRecDepth 100000 in
theorem t_x9_parseOneOf_j88 {l : Launch} {G : GG} {M : MC} (X : CX M G cX9_parseOneOf 5 RX9 ⟨4, 0, 0, 171⟩) (hl0 : M.2.1 = l) (hr : (mM M).sig.returnType = none) (hnm : (mM M).name = yX9_parseOneOf.name) {a0 : Nat} {g : AH} {r : Unit} {g1 : AH} (E : x9_parseOneOf_j88 a0 g = some (r, g1)) : WW M G 5 (RQ M G none g1 0 0) 0 0 g 88 [(0, .ref a0)] [] := by
  unfold x9_parseOneOf_j88 at E
  refine r_aload_n X 0 dX9_parseOneOf_88 rfl rfl ?_
  obtain ⟨u4, e5, E⟩ := gb_some E
  obtain ⟨r1, g2, e3, E⟩ := cb_some E
  refine r_callV0 X hl0 (ci := 9) dX9_parseOneOf_89 y_X9_proceed m_X9_176 rfl rfl e5 (t_x9_proceed (l := l) (G := G) e3) rfl rfl (Nat.le_of_ble_eq_true rfl) (by decide) ?_
  cases E
  exact r_vret X hr dX9_parseOneOf_92 (by decide) (by decide)
set_option maxHeartbeats 4000000 in
set_option maxRecDepth 100000 in
theorem t_x9_parseOneOf_j50 {l : Launch} {G : GG} {M : MC} (X : CX M G cX9_parseOneOf 5 RX9 ⟨4, 0, 0, 171⟩) (hl0 : M.2.1 = l) (hr : (mM M).sig.returnType = none) (hnm : (mM M).name = yX9_parseOneOf.name) {a0 : Nat} {a1 : Int32} {a2 : Int32} {s0 : Int32} {s1 : Nat} {g : AH} {r : Unit} {g1 : AH} (E : x9_parseOneOf_j50 a0 a1 a2 s0 s1 g = some (r, g1)) : WW M G 5 (RQ M G none g1 0 0) 0 0 g 50 [(0, .ref a0), (1, .int a1), (2, .int a2)] [.int s0, .ref s1] := by
  unfold x9_parseOneOf_j50 at E
  refine r_iconst X (v := 3) dX9_parseOneOf_50 (by decide) ?_
  obtain ⟨u4, e5, E⟩ := gb_some E
  obtain ⟨r1, g2, e3, E⟩ := cb_some E
  refine r_callV0 X hl0 (ci := 9) dX9_parseOneOf_51 y_X9_require m_X9_188 rfl rfl e5 (t_x9_require (l := l) (G := G) e3) rfl rfl (Nat.le_of_ble_eq_true rfl) (by decide) ?_
  refine r_aload_n X 0 dX9_parseOneOf_54 rfl rfl ?_
  obtain ⟨u9, e10, E⟩ := gb_some E
  obtain ⟨r6, g7, e8, E⟩ := cb_some E
  refine r_callV0 X hl0 (ci := 9) dX9_parseOneOf_55 y_X9_isFine m_X9_147 rfl rfl e10 (t_x9_isFine (l := l) (G := G) e8) rfl rfl (Nat.le_of_ble_eq_true rfl) (by decide) ?_
  refine r_if_eq X 88 dX9_parseOneOf_58 (by decide) (fun c11 => ?_) (fun c11 => ?_)
  · rw [if_pos c11] at E
    exact r_pick (by rfl : lpick [(0, .ref a0), (1, .int a1), (2, .int a2)] [0] = _) (t_x9_parseOneOf_j88 X hl0 hr hnm E)
  · rw [if_neg c11] at E
    refine r_aload_n X 0 dX9_parseOneOf_61 rfl rfl ?_
    obtain ⟨x12, e13, E⟩ := gb_some E
    refine r_getR X dX9_parseOneOf_62 f_X9_7 e13 ?_
    refine r_iload_n X 2 dX9_parseOneOf_65 rfl rfl ?_
    refine r_aload_n X 0 dX9_parseOneOf_66 rfl rfl ?_
    obtain ⟨x14, e15, E⟩ := gb_some E
    refine r_getR X dX9_parseOneOf_67 f_X9_7 e15 ?_
    refine r_iload_n X 1 dX9_parseOneOf_70 rfl rfl ?_
    obtain ⟨x16, e17, E⟩ := gb_some E
    refine r_iald X dX9_parseOneOf_71 e17 ?_
    refine r_iadd X dX9_parseOneOf_72 ?_
    refine r_aload_n X 0 dX9_parseOneOf_73 rfl rfl ?_
    obtain ⟨x18, e19, E⟩ := gb_some E
    refine r_getI X dX9_parseOneOf_74 f_X9_169 e19 ?_
    obtain ⟨g20, e21, E⟩ := gb_some E
    refine r_iast X dX9_parseOneOf_77 e21 ?_
    refine r_aload_n X 0 dX9_parseOneOf_78 rfl rfl ?_
    obtain ⟨x22, e23, E⟩ := gb_some E
    refine r_getR X dX9_parseOneOf_79 f_X9_7 e23 ?_
    refine r_iload_n X 1 dX9_parseOneOf_82 rfl rfl ?_
    refine r_dup2 X dX9_parseOneOf_83 rfl rfl ?_
    obtain ⟨x24, e25, E⟩ := gb_some E
    refine r_iald X dX9_parseOneOf_84 e25 ?_
    refine r_iconst X (v := 1) dX9_parseOneOf_85 (by decide) ?_
    refine r_iadd X dX9_parseOneOf_86 ?_
    obtain ⟨g26, e27, E⟩ := gb_some E
    refine r_iast X dX9_parseOneOf_87 e27 ?_
    exact r_pick (by rfl : lpick [(0, .ref a0), (1, .int a1), (2, .int a2)] [0] = _) (t_x9_parseOneOf_j88 X hl0 hr hnm E)
set_option maxHeartbeats 4000000 in
set_option maxRecDepth 100000 in
theorem t_x9_parseOneOf_j14 {l : Launch} {G : GG} {M : MC} (X : CX M G cX9_parseOneOf 5 RX9 ⟨4, 0, 0, 171⟩) (hl0 : M.2.1 = l) (hr : (mM M).sig.returnType = none) (hnm : (mM M).name = yX9_parseOneOf.name) {a0 : Nat} {a1 : Int32} {a2 : Int32} {a3 : Int32} {a4 : Int32} {s0 : Int32} {s1 : Nat} {g : AH} {r : Unit} {g1 : AH} (E : x9_parseOneOf_j14 a0 a1 a2 a3 a4 s0 s1 g = some (r, g1)) : WW M G 5 (RQ M G none g1 0 0) 0 0 g 14 [(0, .ref a0), (1, .int a1), (2, .int a2), (3, .int a3), (4, .int a4)] [.int s0, .ref s1] := by
  unfold x9_parseOneOf_j14 at E
  refine r_iconst X (v := 1) dX9_parseOneOf_14 (by decide) ?_
  obtain ⟨u4, e5, E⟩ := gb_some E
  obtain ⟨r1, g2, e3, E⟩ := cb_some E
  refine r_callV0 X hl0 (ci := 9) dX9_parseOneOf_15 y_X9_require m_X9_188 rfl rfl e5 (t_x9_require (l := l) (G := G) e3) rfl rfl (Nat.le_of_ble_eq_true rfl) (by decide) ?_
  refine r_aload_n X 0 dX9_parseOneOf_18 rfl rfl ?_
  refine r_aload_n X 0 dX9_parseOneOf_19 rfl rfl ?_
  obtain ⟨x6, e7, E⟩ := gb_some E
  refine r_getI X dX9_parseOneOf_20 f_X9_169 e7 ?_
  refine r_iload_n X 3 dX9_parseOneOf_23 rfl rfl ?_
  refine r_iload X dX9_parseOneOf_24 rfl ?_
  obtain ⟨r8, g9, e10, E⟩ := cb_some E
  refine r_callS0 X hl0 dX9_parseOneOf_26 y_X9_isBetween m_X9_68 (t_x9_isBetween (l := l) (G := G) e10) rfl rfl (Nat.le_of_ble_eq_true rfl) (by decide) ?_
  refine r_iconst X (v := 2) dX9_parseOneOf_29 (by decide) ?_
  obtain ⟨u14, e15, E⟩ := gb_some E
  obtain ⟨r11, g12, e13, E⟩ := cb_some E
  refine r_callV0 X hl0 (ci := 9) dX9_parseOneOf_30 y_X9_require m_X9_188 rfl rfl e15 (t_x9_require (l := l) (G := G) e13) rfl rfl (Nat.le_of_ble_eq_true rfl) (by decide) ?_
  refine r_aload_n X 0 dX9_parseOneOf_33 rfl rfl ?_
  refine r_aload_n X 0 dX9_parseOneOf_34 rfl rfl ?_
  obtain ⟨x16, e17, E⟩ := gb_some E
  refine r_getR X dX9_parseOneOf_35 f_X9_7 e17 ?_
  refine r_iload_n X 1 dX9_parseOneOf_38 rfl rfl ?_
  obtain ⟨x18, e19, E⟩ := gb_some E
  refine r_iald X dX9_parseOneOf_39 e19 ?_
  refine r_bipush X (v := 12) dX9_parseOneOf_40 (by decide) ?_
  refine r_icmp_ge X 49 dX9_parseOneOf_42 (by decide) (fun c20 => ?_) (fun c20 => ?_)
  · rw [if_pos c20] at E
    refine r_iconst X (v := 0) dX9_parseOneOf_49 (by decide) ?_
    exact r_pick (by rfl : lpick [(0, .ref a0), (1, .int a1), (2, .int a2), (3, .int a3), (4, .int a4)] [0, 1, 2] = _) (t_x9_parseOneOf_j50 X hl0 hr hnm E)
  · rw [if_neg c20] at E
    refine r_iconst X (v := 1) dX9_parseOneOf_45 (by decide) ?_
    refine r_goto X 50 dX9_parseOneOf_46 (by decide) ?_
    exact r_pick (by rfl : lpick [(0, .ref a0), (1, .int a1), (2, .int a2), (3, .int a3), (4, .int a4)] [0, 1, 2] = _) (t_x9_parseOneOf_j50 X hl0 hr hnm E)
set_option maxHeartbeats 4000000 in
set_option maxRecDepth 100000 in
theorem t_x9_parseOneOf_b {l : Launch} {G : GG} {M : MC} (X : CX M G cX9_parseOneOf 5 RX9 ⟨4, 0, 0, 171⟩) (hl0 : M.2.1 = l) (hr : (mM M).sig.returnType = none) (hnm : (mM M).name = yX9_parseOneOf.name) {p : Nat} {b0 : Int32} {b1 : Int32} {b2 : Int32} {b3 : Int32} {g : AH} {r : Unit} {g1 : AH} (E : x9_parseOneOf p b0 b1 b2 b3 g = some (r, g1)) : WW M G 5 (RQ M G none g1 0 0) 0 0 g 0 [(0, .ref p), (1, .int b0), (2, .int b1), (3, .int b2), (4, .int b3)] [] := by
  unfold x9_parseOneOf at E
  refine r_aload_n X 0 dX9_parseOneOf_0 rfl rfl ?_
  refine r_aload_n X 0 dX9_parseOneOf_1 rfl rfl ?_
  obtain ⟨x1, e2, E⟩ := gb_some E
  refine r_getI X dX9_parseOneOf_2 f_X9_160 e2 ?_
  refine r_iconst X (v := 2) dX9_parseOneOf_5 (by decide) ?_
  refine r_icmp_ne X 13 dX9_parseOneOf_6 (by decide) (fun c3 => ?_) (fun c3 => ?_)
  · rw [if_neg c3] at E
    refine r_iconst X (v := 0) dX9_parseOneOf_13 (by decide) ?_
    exact r_pick (by rfl : lpick [(0, .ref p), (1, .int b0), (2, .int b1), (3, .int b2), (4, .int b3)] [0, 1, 2, 3, 4] = _) (t_x9_parseOneOf_j14 X hl0 hr hnm E)
  · rw [if_pos c3] at E
    refine r_iconst X (v := 1) dX9_parseOneOf_9 (by decide) ?_
    refine r_goto X 14 dX9_parseOneOf_10 (by decide) ?_
    exact r_pick (by rfl : lpick [(0, .ref p), (1, .int b0), (2, .int b1), (3, .int b2), (4, .int b3)] [0, 1, 2, 3, 4] = _) (t_x9_parseOneOf_j14 X hl0 hr hnm E)
theorem t_x9_parseOneOf {l : Launch} {G : GG} {p : Nat} {b0 : Int32} {b1 : Int32} {b2 : Int32} {b3 : Int32} {g : AH} {r : Unit} {g1 : AH} (E : x9_parseOneOf p b0 b1 b2 b3 g = some (r, g1)) : Ct l G yX9_parseOneOf cX9_parseOneOf 5 none ⟨4, 0, 0, 171⟩ [.ref p, .int b0, .int b1, .int b2, .int b3] g none g1 :=
  ct_of (L0 := [(0, .ref p), (1, .int b0), (2, .int b1), (3, .int b2), (4, .int b3)]) y_X9_parseOneOf rfl (Nat.le_of_ble_eq_true rfl) fun M hl0 X hr hnm => t_x9_parseOneOf_b X hl0 hr hnm E
set_option maxHeartbeats 4000000 in
set_option maxRecDepth 100000 in
theorem t_x9_parseRow_j26_0 {l : Launch} {G : GG} {M : MC} (X : CX M G cX9_parseRow 6 RX9 ⟨5, 0, 0, 195⟩) (hl0 : M.2.1 = l) (hr : (mM M).sig.returnType = none) (hnm : (mM M).name = yX9_parseRow.name) {Q : State → Prop} {kc ks : Nat} {s9 : ((Unit) ⊕ (Unit))} {g1 : AH} {a0 : Nat} {a1 : Int32} {a2 : Int32} {a3 : Int32} {a4 : Int32} {a5 : Int32} (hc : ∀ s1, s9 = .inl s1 → WW M G 6 Q kc ks g1 0 [(0, .ref a0), (1, .int a1), (2, .int a2), (3, .int a3), (4, .int a4), (5, .int a5)] []) (hx : ∀ t, s9 = .inr t → WW M G 6 Q kc ks g1 38 [(0, .ref a0)] []) {g : AH} (E : x9_parseRow_j26_0 a0 a1 a2 a3 a4 a5 g = some (s9, g1)) : WW M G 6 Q kc ks g 26 [(0, .ref a0), (1, .int a1), (2, .int a2), (3, .int a3), (4, .int a4), (5, .int a5)] [] := by
  unfold x9_parseRow_j26_0 at E
  refine r_aload_n X 0 dX9_parseRow_26 rfl rfl ?_
  refine r_iload_n X 1 dX9_parseRow_27 rfl rfl ?_
  refine r_iload_n X 2 dX9_parseRow_28 rfl rfl ?_
  refine r_iload_n X 3 dX9_parseRow_29 rfl rfl ?_
  refine r_iload X dX9_parseRow_30 rfl ?_
  obtain ⟨u4, e5, E⟩ := gb_some E
  obtain ⟨r1, g2, e3, E⟩ := cb_some E
  refine r_callV0 X hl0 (ci := 9) dX9_parseRow_32 y_X9_parseOneOf m_X9_199 rfl rfl e5 (t_x9_parseOneOf (l := l) (G := G) e3) rfl rfl (Nat.le_of_ble_eq_true rfl) (by decide) ?_
  refine r_goto X 0 dX9_parseRow_35 (by decide) ?_
  cases E
  exact r_pick (by rfl : lpick [(0, .ref a0), (1, .int a1), (2, .int a2), (3, .int a3), (4, .int a4), (5, .int a5)] [0, 1, 2, 3, 4, 5] = _) (hc _ rfl)
set_option maxHeartbeats 4000000 in
set_option maxRecDepth 100000 in
theorem t_x9_parseRow_l0 {l : Launch} {G : GG} {M : MC} (X : CX M G cX9_parseRow 6 RX9 ⟨5, 0, 0, 195⟩) (hl0 : M.2.1 = l) (hr : (mM M).sig.returnType = none) (hnm : (mM M).name = yX9_parseRow.name) {Q : State → Prop} {kc ks : Nat} {s9 : ((Unit) ⊕ (Unit))} {g1 : AH} {a0 : Nat} {a1 : Int32} {a2 : Int32} {a3 : Int32} {a4 : Int32} {a5 : Int32} {s0 : Unit} (hc : ∀ s1, s9 = .inl s1 → WW M G 6 Q kc ks g1 0 [(0, .ref a0), (1, .int a1), (2, .int a2), (3, .int a3), (4, .int a4), (5, .int a5)] []) (hx : ∀ t, s9 = .inr t → WW M G 6 Q kc ks g1 38 [(0, .ref a0)] []) {g : AH} (E : x9_parseRow_l0 a0 a1 a2 a3 a4 a5 s0 g = some (s9, g1)) : WW M G 6 Q kc ks g 0 [(0, .ref a0), (1, .int a1), (2, .int a2), (3, .int a3), (4, .int a4), (5, .int a5)] [] := by
  unfold x9_parseRow_l0 at E
  refine r_aload_n X 0 dX9_parseRow_0 rfl rfl ?_
  obtain ⟨u4, e5, E⟩ := gb_some E
  obtain ⟨r1, g2, e3, E⟩ := cb_some E
  refine r_callV0 X hl0 (ci := 9) dX9_parseRow_1 y_X9_isFine m_X9_147 rfl rfl e5 (t_x9_isFine (l := l) (G := G) e3) rfl rfl (Nat.le_of_ble_eq_true rfl) (by decide) ?_
  refine r_if_eq X 38 dX9_parseRow_4 (by decide) (fun c6 => ?_) (fun c6 => ?_)
  · rw [if_pos c6] at E
    cases E
    exact r_pick (by rfl : lpick [(0, .ref a0), (1, .int a1), (2, .int a2), (3, .int a3), (4, .int a4), (5, .int a5)] [0] = _) (hx _ rfl)
  · rw [if_neg c6] at E
    refine r_aload_n X 0 dX9_parseRow_7 rfl rfl ?_
    obtain ⟨x7, e8, E⟩ := gb_some E
    refine r_getR X dX9_parseRow_8 f_X9_7 e8 ?_
    refine r_iload_n X 1 dX9_parseRow_11 rfl rfl ?_
    obtain ⟨x9, e10, E⟩ := gb_some E
    refine r_iald X dX9_parseRow_12 e10 ?_
    refine r_iload X dX9_parseRow_13 rfl ?_
    refine r_icmp_lt X 26 dX9_parseRow_15 (by decide) (fun c11 => ?_) (fun c11 => ?_)
    · rw [if_pos c11] at E
      exact r_pick (by rfl : lpick [(0, .ref a0), (1, .int a1), (2, .int a2), (3, .int a3), (4, .int a4), (5, .int a5)] [0, 1, 2, 3, 4, 5] = _) (t_x9_parseRow_j26_0 X hl0 hr hnm hc hx E)
    · rw [if_neg c11] at E
      refine r_aload_n X 0 dX9_parseRow_18 rfl rfl ?_
      obtain ⟨x12, e13, E⟩ := gb_some E
      refine r_getI X dX9_parseRow_19 f_X9_160 e13 ?_
      refine r_iconst X (v := 3) dX9_parseRow_22 (by decide) ?_
      refine r_icmp_eq X 38 dX9_parseRow_23 (by decide) (fun c14 => ?_) (fun c14 => ?_)
      · rw [if_pos c14] at E
        cases E
        exact r_pick (by rfl : lpick [(0, .ref a0), (1, .int a1), (2, .int a2), (3, .int a3), (4, .int a4), (5, .int a5)] [0] = _) (hx _ rfl)
      · rw [if_neg c14] at E
        exact r_pick (by rfl : lpick [(0, .ref a0), (1, .int a1), (2, .int a2), (3, .int a3), (4, .int a4), (5, .int a5)] [0, 1, 2, 3, 4, 5] = _) (t_x9_parseRow_j26_0 X hl0 hr hnm hc hx E)
set_option maxHeartbeats 4000000 in
theorem t_x9_parseRow_l0_r {l : Launch} {G : GG} {M : MC} (X : CX M G cX9_parseRow 6 RX9 ⟨5, 0, 0, 195⟩) (hl0 : M.2.1 = l) (hr : (mM M).sig.returnType = none) (hnm : (mM M).name = yX9_parseRow.name) {Q : State → Prop} {kc ks : Nat} {a0 : Nat} {a1 : Int32} {a2 : Int32} {a3 : Int32} {a4 : Int32} {a5 : Int32} : ∀ (n : Nat) (s0 : Unit) (g : AH) (t : (Unit)) (g1 : AH), loopX (x9_parseRow_l0 a0 a1 a2 a3 a4 a5) n s0 g = some (t, g1) → WW M G 6 Q kc ks g1 38 [(0, .ref a0)] [] → WW M G 6 Q kc ks g 0 [(0, .ref a0), (1, .int a1), (2, .int a2), (3, .int a3), (4, .int a4), (5, .int a5)] [] :=
  loop_cps (K := fun t g1 => WW M G 6 Q kc ks g1 38 [(0, .ref a0)] []) (fun _ s0 g => WW M G 6 Q kc ks g 0 [(0, .ref a0), (1, .int a1), (2, .int a2), (3, .int a3), (4, .int a4), (5, .int a5)] []) (fun n s0 g st g1 E hc hx => t_x9_parseRow_l0 X hl0 hr hnm hc hx E)
set_option maxHeartbeats 4000000 in
set_option maxRecDepth 100000 in
theorem t_x9_parseRow_j38 {l : Launch} {G : GG} {M : MC} (X : CX M G cX9_parseRow 6 RX9 ⟨5, 0, 0, 195⟩) (hl0 : M.2.1 = l) (hr : (mM M).sig.returnType = none) (hnm : (mM M).name = yX9_parseRow.name) {a0 : Nat} {g : AH} {r : Unit} {g1 : AH} (E : x9_parseRow_j38 a0 g = some (r, g1)) : WW M G 6 (RQ M G none g1 0 0) 0 0 g 38 [(0, .ref a0)] [] := by
  unfold x9_parseRow_j38 at E
  refine r_aload_n X 0 dX9_parseRow_38 rfl rfl ?_
  obtain ⟨u4, e5, E⟩ := gb_some E
  obtain ⟨r1, g2, e3, E⟩ := cb_some E
  refine r_callV0 X hl0 (ci := 9) dX9_parseRow_39 y_X9_parseEnd m_X9_202 rfl rfl e5 (t_x9_parseEnd (l := l) (G := G) e3) rfl rfl (Nat.le_of_ble_eq_true rfl) (by decide) ?_
  cases E
  exact r_vret X hr dX9_parseRow_42 (by decide) (by decide)
set_option maxHeartbeats 4000000 in
set_option maxRecDepth 100000 in
theorem t_x9_parseRow_b {l : Launch} {G : GG} {M : MC} (X : CX M G cX9_parseRow 6 RX9 ⟨5, 0, 0, 195⟩) (hl0 : M.2.1 = l) (hr : (mM M).sig.returnType = none) (hnm : (mM M).name = yX9_parseRow.name) {p : Nat} {b0 : Int32} {b1 : Int32} {b2 : Int32} {b3 : Int32} {b4 : Int32} {g : AH} {r : Unit} {g1 : AH} (E : x9_parseRow p b0 b1 b2 b3 b4 g = some (r, g1)) : WW M G 6 (RQ M G none g1 0 0) 0 0 g 0 [(0, .ref p), (1, .int b0), (2, .int b1), (3, .int b2), (4, .int b3), (5, .int b4)] [] := by
  unfold x9_parseRow at E
  obtain ⟨t1, g2, e3, E⟩ := cb_some E
  refine r_pick (by rfl : lpick [(0, .ref p), (1, .int b0), (2, .int b1), (3, .int b2), (4, .int b3), (5, .int b4)] [0, 1, 2, 3, 4, 5] = _) (t_x9_parseRow_l0_r X hl0 hr hnm _ _ _ _ _ e3 ?_)
  exact r_pick (by rfl : lpick [(0, .ref p)] [0] = _) (t_x9_parseRow_j38 X hl0 hr hnm E)
theorem t_x9_parseRow {l : Launch} {G : GG} {p : Nat} {b0 : Int32} {b1 : Int32} {b2 : Int32} {b3 : Int32} {b4 : Int32} {g : AH} {r : Unit} {g1 : AH} (E : x9_parseRow p b0 b1 b2 b3 b4 g = some (r, g1)) : Ct l G yX9_parseRow cX9_parseRow 6 none ⟨5, 0, 0, 195⟩ [.ref p, .int b0, .int b1, .int b2, .int b3, .int b4] g none g1 :=
  ct_of (L0 := [(0, .ref p), (1, .int b0), (2, .int b1), (3, .int b2), (4, .int b3), (5, .int b4)]) y_X9_parseRow rfl (Nat.le_of_ble_eq_true rfl) fun M hl0 X hr hnm => t_x9_parseRow_b X hl0 hr hnm E
set_option maxHeartbeats 4000000 in
set_option maxRecDepth 100000 in
theorem t_x9_parseHiker_j29 {l : Launch} {G : GG} {M : MC} (X : CX M G cX9_parseHiker 4 RX9 ⟨7, 0, 0, 222⟩) (hl0 : M.2.1 = l) (hr : (mM M).sig.returnType = none) (hnm : (mM M).name = yX9_parseHiker.name) {a0 : Nat} {s0 : Int32} {s1 : Nat} {g : AH} {r : Unit} {g1 : AH} (E : x9_parseHiker_j29 a0 s0 s1 g = some (r, g1)) : WW M G 4 (RQ M G none g1 0 0) 0 0 g 29 [(0, .ref a0)] [.int s0, .ref s1] := by
  unfold x9_parseHiker_j29 at E
  refine r_iconst X (v := 3) dX9_parseHiker_29 (by decide) ?_
  obtain ⟨u4, e5, E⟩ := gb_some E
  obtain ⟨r1, g2, e3, E⟩ := cb_some E
  refine r_callV0 X hl0 (ci := 9) dX9_parseHiker_30 y_X9_require m_X9_188 rfl rfl e5 (t_x9_require (l := l) (G := G) e3) rfl rfl (Nat.le_of_ble_eq_true rfl) (by decide) ?_
  refine r_aload_n X 0 dX9_parseHiker_33 rfl rfl ?_
  obtain ⟨u9, e10, E⟩ := gb_some E
  obtain ⟨r6, g7, e8, E⟩ := cb_some E
  refine r_callV0 X hl0 (ci := 9) dX9_parseHiker_34 y_X9_proceed m_X9_176 rfl rfl e10 (t_x9_proceed (l := l) (G := G) e8) rfl rfl (Nat.le_of_ble_eq_true rfl) (by decide) ?_
  refine r_aload_n X 0 dX9_parseHiker_37 rfl rfl ?_
  refine r_iconst X (v := 1) dX9_parseHiker_38 (by decide) ?_
  refine r_bipush X (v := 30) dX9_parseHiker_39 (by decide) ?_
  obtain ⟨u14, e15, E⟩ := gb_some E
  obtain ⟨r11, g12, e13, E⟩ := cb_some E
  refine r_callV0 X hl0 (ci := 9) dX9_parseHiker_41 y_X9_parseRange m_X9_207 rfl rfl e15 (t_x9_parseRange (l := l) (G := G) e13) rfl rfl (Nat.le_of_ble_eq_true rfl) (by decide) ?_
  refine r_istore_n X 1 (L1 := [(1, .int r11), (0, .ref a0)]) dX9_parseHiker_44 rfl (by decide) rfl ?_
  refine r_aload_n X 0 dX9_parseHiker_45 rfl rfl ?_
  refine r_iconst X (v := 0) dX9_parseHiker_46 (by decide) ?_
  refine r_bipush X (v := 9) dX9_parseHiker_47 (by decide) ?_
  obtain ⟨u19, e20, E⟩ := gb_some E
  obtain ⟨r16, g17, e18, E⟩ := cb_some E
  refine r_callV0 X hl0 (ci := 9) dX9_parseHiker_49 y_X9_parseRange m_X9_207 rfl rfl e20 (t_x9_parseRange (l := l) (G := G) e18) rfl rfl (Nat.le_of_ble_eq_true rfl) (by decide) ?_
  refine r_istore_n X 2 (L1 := [(2, .int r16), (1, .int r11), (0, .ref a0)]) dX9_parseHiker_52 rfl (by decide) rfl ?_
  refine r_aload_n X 0 dX9_parseHiker_53 rfl rfl ?_
  refine r_iconst X (v := 0) dX9_parseHiker_54 (by decide) ?_
  refine r_bipush X (v := 99) dX9_parseHiker_55 (by decide) ?_
  obtain ⟨u24, e25, E⟩ := gb_some E
  obtain ⟨r21, g22, e23, E⟩ := cb_some E
  refine r_callV0 X hl0 (ci := 9) dX9_parseHiker_57 y_X9_parseRange m_X9_207 rfl rfl e25 (t_x9_parseRange (l := l) (G := G) e23) rfl rfl (Nat.le_of_ble_eq_true rfl) (by decide) ?_
  refine r_istore_n X 3 (L1 := [(3, .int r21), (2, .int r16), (1, .int r11), (0, .ref a0)]) dX9_parseHiker_60 rfl (by decide) rfl ?_
  refine r_aload_n X 0 dX9_parseHiker_61 rfl rfl ?_
  obtain ⟨u29, e30, E⟩ := gb_some E
  obtain ⟨r26, g27, e28, E⟩ := cb_some E
  refine r_callV0 X hl0 (ci := 9) dX9_parseHiker_62 y_X9_parseEnd m_X9_202 rfl rfl e30 (t_x9_parseEnd (l := l) (G := G) e28) rfl rfl (Nat.le_of_ble_eq_true rfl) (by decide) ?_
  refine r_aload_n X 0 dX9_parseHiker_65 rfl rfl ?_
  obtain ⟨u34, e35, E⟩ := gb_some E
  obtain ⟨r31, g32, e33, E⟩ := cb_some E
  refine r_callV0 X hl0 (ci := 9) dX9_parseHiker_66 y_X9_isFine m_X9_147 rfl rfl e35 (t_x9_isFine (l := l) (G := G) e33) rfl rfl (Nat.le_of_ble_eq_true rfl) (by decide) ?_
  refine r_if_eq X 79 dX9_parseHiker_69 (by decide) (fun c36 => ?_) (fun c36 => ?_)
  · rw [if_pos c36] at E
    cases E
    exact r_vret X hr dX9_parseHiker_79 (by decide) (by decide)
  · rw [if_neg c36] at E
    refine r_aload_n X 0 dX9_parseHiker_72 rfl rfl ?_
    refine r_iload_n X 1 dX9_parseHiker_73 rfl rfl ?_
    refine r_iload_n X 2 dX9_parseHiker_74 rfl rfl ?_
    refine r_iload_n X 3 dX9_parseHiker_75 rfl rfl ?_
    obtain ⟨u40, e41, E⟩ := gb_some E
    obtain ⟨r37, g38, e39, E⟩ := cb_some E
    refine r_callV0 X hl0 (ci := 9) dX9_parseHiker_76 y_X9_addHiker m_X9_50 rfl rfl e41 (t_x9_addHiker (l := l) (G := G) e39) rfl rfl (Nat.le_of_ble_eq_true rfl) (by decide) ?_
    cases E
    exact r_vret X hr dX9_parseHiker_79 (by decide) (by decide)
set_option maxHeartbeats 4000000 in
set_option maxRecDepth 100000 in
theorem t_x9_parseHiker_b {l : Launch} {G : GG} {M : MC} (X : CX M G cX9_parseHiker 4 RX9 ⟨7, 0, 0, 222⟩) (hl0 : M.2.1 = l) (hr : (mM M).sig.returnType = none) (hnm : (mM M).name = yX9_parseHiker.name) {p : Nat} {g : AH} {r : Unit} {g1 : AH} (E : x9_parseHiker p g = some (r, g1)) : WW M G 4 (RQ M G none g1 0 0) 0 0 g 0 [(0, .ref p)] [] := by
  unfold x9_parseHiker at E
  refine r_aload_n X 0 dX9_parseHiker_0 rfl rfl ?_
  refine r_aload_n X 0 dX9_parseHiker_1 rfl rfl ?_
  refine r_ldcS X dX9_parseHiker_2 (List.mem_of_getElem? (i := 29) rfl) ?_
  obtain ⟨u4, e5, E⟩ := gb_some E
  obtain ⟨r1, g2, e3, E⟩ := cb_some E
  refine r_callV0 X hl0 (ci := 9) dX9_parseHiker_4 y_X9_isWord m_X9_195 rfl rfl e5 (t_x9_isWord (l := l) (G := G) e3) rfl rfl (Nat.le_of_ble_eq_true rfl) (by decide) ?_
  refine r_iconst X (v := 1) dX9_parseHiker_7 (by decide) ?_
  obtain ⟨u9, e10, E⟩ := gb_some E
  obtain ⟨r6, g7, e8, E⟩ := cb_some E
  refine r_callV0 X hl0 (ci := 9) dX9_parseHiker_8 y_X9_require m_X9_188 rfl rfl e10 (t_x9_require (l := l) (G := G) e8) rfl rfl (Nat.le_of_ble_eq_true rfl) (by decide) ?_
  refine r_aload_n X 0 dX9_parseHiker_11 rfl rfl ?_
  refine r_aload_n X 0 dX9_parseHiker_12 rfl rfl ?_
  obtain ⟨x11, e12, E⟩ := gb_some E
  refine r_getR X dX9_parseHiker_13 f_X9_7 e12 ?_
  refine r_bipush X (v := 12) dX9_parseHiker_16 (by decide) ?_
  obtain ⟨x13, e14, E⟩ := gb_some E
  refine r_iald X dX9_parseHiker_18 e14 ?_
  refine r_bipush X (v := 10) dX9_parseHiker_19 (by decide) ?_
  refine r_icmp_ge X 28 dX9_parseHiker_21 (by decide) (fun c15 => ?_) (fun c15 => ?_)
  · rw [if_pos c15] at E
    refine r_iconst X (v := 0) dX9_parseHiker_28 (by decide) ?_
    exact r_pick (by rfl : lpick [(0, .ref p)] [0] = _) (t_x9_parseHiker_j29 X hl0 hr hnm E)
  · rw [if_neg c15] at E
    refine r_iconst X (v := 1) dX9_parseHiker_24 (by decide) ?_
    refine r_goto X 29 dX9_parseHiker_25 (by decide) ?_
    exact r_pick (by rfl : lpick [(0, .ref p)] [0] = _) (t_x9_parseHiker_j29 X hl0 hr hnm E)
theorem t_x9_parseHiker {l : Launch} {G : GG} {p : Nat} {g : AH} {r : Unit} {g1 : AH} (E : x9_parseHiker p g = some (r, g1)) : Ct l G yX9_parseHiker cX9_parseHiker 4 none ⟨7, 0, 0, 222⟩ [.ref p] g none g1 :=
  ct_of (L0 := [(0, .ref p)]) y_X9_parseHiker rfl (Nat.le_of_ble_eq_true rfl) fun M hl0 X hr hnm => t_x9_parseHiker_b X hl0 hr hnm E
