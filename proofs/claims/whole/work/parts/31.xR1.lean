/-! functions and contracts, by program: parseHut, loadSetup, rareCommandHere, commandHere, parseFirst, parseSecond, parseCommand, isOnPile, record, change, takeBlanket, returnBlanket, exchange, swapBlankets, lieDown, getUp, setRate, fetchLogs, payDebt, passHours, execute, runScript, errorCode, errorPosition, hour, hoursUntilDawn, logs, temperature, hikerIn, noiseIn, isQuieter, quietestBunk, longestRow, sleepersWith, sleepersIf, isFreeFor, bestPlaceFor, userOf, countPile, rankOnPile, blanketOnPile, pileSize, fittingBlanket, hikerCount, tellOf, bunkOf, blanketOf, warmth -/
def x9_parseHut_j113_89 (a0 : Nat) (g : AH) : Option (((Unit) ⊕ (Unit)) × AH) :=
  gb (isO 9 g a0) fun _ => cb (x9_parseHiker a0 g) fun r1 g2 => some (.inl (), g2)
def x9_parseHut_l89 (a0 : Nat) (s0 : Unit) (g : AH) : Option (((Unit) ⊕ (Unit)) × AH) :=
  gb (isO 9 g a0) fun _ => cb (x9_isFine a0 g) fun r1 g2 => if r1 = 0 then
  some (.inr (), g2)
  else
  gb (getR 9 g2 a0 0) fun x7 => gb (aldI 0 g2 x7 12) fun x9 => if x9 = 0 then
  x9_parseHut_j113_89 a0 g2
  else
  gb (getI 9 g2 a0 10) fun x12 => if x12 = 0 then
  some (.inr (), g2)
  else
  x9_parseHut_j113_89 a0 g2
def x9_parseHut (p : Nat) (g : AH) : Option (Unit × AH) :=
  gb (isO 9 g p) fun _ => cb (x9_parseWord p 1 g) fun r1 g2 => gb (getR 9 g2 p 0) fun x6 => gb (isO 9 g2 p) fun _ => cb (x9_parseRange p 0 99 g2) fun r8 g9 => gb (astI 0 g9 x6 0 r8) fun g13 => gb (getR 9 g13 p 0) fun x15 => gb (getR 9 g13 p 0) fun x17 => gb (aldI 0 g13 x17 0) fun x19 => gb (astI 0 g13 x15 8 x19) fun g21 => gb (isO 9 g21 p) fun _ => cb (x9_parseEnd p g21) fun r23 g24 => gb (isO 9 g24 p) fun _ => cb (x9_parseWord p 2 g24) fun r28 g29 => gb (isO 9 g29 p) fun _ => cb (x9_parseRow p 9 13 0 5 1 g29) fun r33 g34 => gb (isO 9 g34 p) fun _ => cb (x9_parseWord p 3 g34) fun r38 g39 => gb (isO 9 g39 p) fun _ => cb (x9_parseRow p 10 25 1 9 0 g39) fun r43 g44 => gb (isO 9 g44 p) fun _ => cb (x9_parseWord p 4 g44) fun r48 g49 => gb (isO 9 g49 p) fun _ => cb (x9_parseRow p 11 37 0 20 1 g49) fun r53 g54 => cb (loopX (x9_parseHut_l89 p) 1000 () g54) fun t58 g59 =>
  some ((), g59)
def x9_loadSetup_l15 (a0 : Nat) (s0 : Int32) (g : AH) : Option (((Int32) ⊕ (Unit)) × AH) :=
  if 149 ≤ s0 then
  some (.inr (), g)
  else
  gb (getR 9 g a0 0) fun x2 => gb (astI 0 g x2 s0 0) fun g4 => some (.inl (s0 + 1), g4)
def x9_loadSetup (p : Nat) (g : AH) : Option (Int32 × AH) :=
  gb (putV 9 g p 6 (.int 0)) fun g1 => gb (isO 9 g1 p) fun _ => cb (x9_goAside p g1) fun r3 g4 => gb (isO 9 g4 p) fun _ => cb (x9_startText p g4) fun r8 g9 => cb (loopX (x9_loadSetup_l15 p) 1000 0 g9) fun t13 g14 =>
  gb (isO 9 g14 p) fun _ => cb (x9_parseHut p g14) fun r16 g17 => gb (putV 9 g17 p 9 (.int 0)) fun g21 => gb (isO 9 g21 p) fun _ => cb (x9_isFine p g21) fun r23 g24 => if r23 = 0 then
  gb (isO 9 g24 p) fun _ => cb (x9_comeBack p (-1) g24) fun r35 g36 => some (r35, g36)
  else
  gb (putV 9 g24 p 5 (.int 0)) fun g29 => gb (getR 9 g29 p 0) fun x31 => gb (aldI 0 g29 x31 12) fun x33 => some (x33, g29)
def x9_rareCommandHere (p : Nat) (g : AH) : Option (Int32 × AH) :=
  gb (isO 9 g p) fun _ => cb (x9_isWord p 11 g) fun r1 g2 => if r1 = 0 then
  gb (isO 9 g2 p) fun _ => cb (x9_isWord p 12 g2) fun r7 g8 => if r7 = 0 then
  gb (isO 9 g8 p) fun _ => cb (x9_isWord p 13 g8) fun r13 g14 => if r13 = 0 then
  gb (isO 9 g14 p) fun _ => cb (x9_isWord p 14 g14) fun r19 g20 => if r19 = 0 then
  some ((-1), g20)
  else
  some (8, g20)
  else
  some (7, g14)
  else
  some (6, g8)
  else
  some (5, g2)
def x9_commandHere (p : Nat) (g : AH) : Option (Int32 × AH) :=
  gb (isO 9 g p) fun _ => cb (x9_isWord p 6 g) fun r1 g2 => if r1 = 0 then
  gb (isO 9 g2 p) fun _ => cb (x9_isWord p 7 g2) fun r7 g8 => if r7 = 0 then
  gb (isO 9 g8 p) fun _ => cb (x9_isWord p 8 g8) fun r13 g14 => if r13 = 0 then
  gb (isO 9 g14 p) fun _ => cb (x9_isWord p 9 g14) fun r19 g20 => if r19 = 0 then
  gb (isO 9 g20 p) fun _ => cb (x9_isWord p 10 g20) fun r25 g26 => if r25 = 0 then
  gb (isO 9 g26 p) fun _ => cb (x9_rareCommandHere p g26) fun r31 g32 => some (r31, g32)
  else
  some (4, g26)
  else
  some (3, g20)
  else
  some (2, g14)
  else
  some (1, g8)
  else
  some (0, g2)
def x9_parseFirst (p : Nat) (b0 : Int32) (g : AH) : Option (Int32 × AH) :=
  if b0 = 5 then
  gb (isO 9 g p) fun _ => cb (x9_parseNumber p 0 3 g) fun r2 g3 => some (r2, g3)
  else if b0 = 6 then
  gb (isO 9 g p) fun _ => cb (x9_parseNumber p 1 50 g) fun r8 g9 => some (r8, g9)
  else if b0 = 7 then
  gb (isO 9 g p) fun _ => cb (x9_parseNumber p 0 9 g) fun r14 g15 => some (r14, g15)
  else if b0 = 8 then
  gb (isO 9 g p) fun _ => cb (x9_parseNumber p 1 48 g) fun r20 g21 => some (r20, g21)
  else gb (isO 9 g p) fun _ => cb (x9_parseNumber p 0 9 g) fun r25 g26 => some (r25, g26)
def x9_parseSecond (p : Nat) (b0 : Int32) (g : AH) : Option (Int32 × AH) :=
  if b0 = 0 then
  gb (isO 9 g p) fun _ => cb (x9_parseRange p 0 11 g) fun r2 g3 => some (r2, g3)
  else if b0 = 1 then
  some (0, g)
  else if b0 = 2 then
  gb (isO 9 g p) fun _ => cb (x9_parseRange p 0 9 g) fun r9 g10 => some (r9, g10)
  else if b0 = 3 then
  gb (isO 9 g p) fun _ => cb (x9_parseRange p 0 11 g) fun r15 g16 => some (r15, g16)
  else if b0 = 4 then
  some (0, g)
  else if b0 = 5 then
  some (0, g)
  else if b0 = 6 then
  some (0, g)
  else if b0 = 7 then
  gb (isO 9 g p) fun _ => cb (x9_parseRange p 1 99 g) fun r24 g25 => some (r24, g25)
  else some (0, g)
def x9_parseCommand_j76 (a0 : Nat) (a1 : Int32) (a2 : Int32) (s0 : Int32) (g : AH) : Option (Unit × AH) :=
  gb (isO 9 g a0) fun _ => cb (x9_parseEnd a0 g) fun r1 g2 => gb (isO 9 g2 a0) fun _ => cb (x9_isFine a0 g2) fun r6 g7 => if r6 = 0 then
  some ((), g7)
  else
  gb (getI 9 g7 a0 17) fun x12 => gb (getR 9 g7 a0 16) fun x14 => gb (astI 0 g7 x14 (3 * x12) a1) fun g16 => gb (getR 9 g16 a0 16) fun x18 => gb (astI 0 g16 x18 ((3 * x12) + 1) a2) fun g20 => gb (getR 9 g20 a0 16) fun x22 => gb (astI 0 g20 x22 ((3 * x12) + 2) s0) fun g24 => gb (getI 9 g24 a0 17) fun x26 => gb (putV 9 g24 a0 17 (.int (x26 + 1))) fun g28 => some ((), g28)
def x9_parseCommand_j59 (a0 : Nat) (a1 : Int32) (s0 : Int32) (g : AH) : Option (Unit × AH) :=
  gb (isO 9 g a0) fun _ => cb (x9_isFine a0 g) fun r1 g2 => if r1 = 0 then
  x9_parseCommand_j76 a0 a1 s0 0 g2
  else
  gb (isO 9 g2 a0) fun _ => cb (x9_parseSecond a0 a1 g2) fun r7 g8 => x9_parseCommand_j76 a0 a1 s0 r7 g8
def x9_parseCommand_j35 (a0 : Nat) (a1 : Int32) (s0 : Int32) (s1 : Nat) (g : AH) : Option (Unit × AH) :=
  gb (isO 9 g s1) fun _ => cb (x9_require s1 s0 3 g) fun r1 g2 => gb (isO 9 g2 a0) fun _ => cb (x9_proceed a0 g2) fun r6 g7 => gb (isO 9 g7 a0) fun _ => cb (x9_isFine a0 g7) fun r11 g12 => if r11 = 0 then
  x9_parseCommand_j59 a0 a1 0 g12
  else
  gb (isO 9 g12 a0) fun _ => cb (x9_parseFirst a0 a1 g12) fun r17 g18 => x9_parseCommand_j59 a0 a1 r17 g18
def x9_parseCommand_j16 (a0 : Nat) (a1 : Int32) (s0 : Int32) (s1 : Nat) (g : AH) : Option (Unit × AH) :=
  gb (isO 9 g s1) fun _ => cb (x9_require s1 s0 1 g) fun r1 g2 => gb (getI 9 g2 a0 17) fun x6 => if 30 ≤ x6 then
  x9_parseCommand_j35 a0 a1 0 a0 g2
  else
  x9_parseCommand_j35 a0 a1 1 a0 g2
def x9_parseCommand (p : Nat) (g : AH) : Option (Unit × AH) :=
  gb (isO 9 g p) fun _ => cb (x9_commandHere p g) fun r1 g2 => if r1 = (-1) then
  x9_parseCommand_j16 p r1 0 p g2
  else
  x9_parseCommand_j16 p r1 1 p g2
def x9_isOnPile (p : Nat) (b0 : Int32) (g : AH) : Option (Int32 × AH) :=
  gb (isO 9 g p) fun _ => cb (x9_hikerWith p 5 b0 g) fun r1 g2 => if r1 = (-1) then
  some (1, g2)
  else
  some (0, g2)
def x9_record_j52 (a0 : Nat) (g : AH) : Option (Unit × AH) :=
  gb (getR 9 g a0 0) fun x1 => gb (getR 9 g a0 2) fun x3 => gb (getI 9 g a0 5) fun x5 => cb (x9_copy x1 0 x3 (149 * x5) g) fun r7 g8 => gb (getI 9 g8 a0 5) fun x10 => gb (putV 9 g8 a0 5 (.int (x10 + 1))) fun g12 => some ((), g12)
def x9_record_l13 (a0 : Nat) (s0 : Int32) (g : AH) : Option (((Int32) ⊕ (Unit)) × AH) :=
  if 894 ≤ s0 then
  some (.inr (), g)
  else
  gb (getR 9 g a0 2) fun x2 => gb (getR 9 g a0 2) fun x4 => gb (aldI 0 g x4 s0) fun x6 => gb (astI 0 g x2 (s0 - 149) x6) fun g8 => some (.inl (s0 + 1), g8)
def x9_record (p : Nat) (g : AH) : Option (Unit × AH) :=
  gb (getI 9 g p 5) fun x1 => if x1 = 6 then
  cb (loopX (x9_record_l13 p) 1000 149 g) fun t4 g5 =>
  gb (getI 9 g5 p 5) fun x7 => gb (putV 9 g5 p 5 (.int (x7 - 1))) fun g9 => x9_record_j52 p g9
  else
  x9_record_j52 p g
def x9_change (p : Nat) (b0 : Int32) (b1 : Int32) (b2 : Int32) (g : AH) : Option (Int32 × AH) :=
  gb (isO 9 g p) fun _ => cb (x9_record p g) fun r1 g2 => gb (isO 9 g2 p) fun _ => cb (x9_get p b0 b1 g2) fun r6 g7 => gb (isO 9 g7 p) fun _ => cb (x9_set p b0 b1 b2 g7) fun r11 g12 => some (r6, g12)
def x9_takeBlanket_j34 (a0 : Nat) (a1 : Int32) (a2 : Int32) (s0 : Int32) (s1 : Nat) (g : AH) : Option (Int32 × AH) :=
  gb (putV 9 g s1 6 (.int s0)) fun g1 => gb (getI 9 g1 a0 6) fun x3 => if x3 ≤ 0 then
  gb (isO 9 g1 a0) fun _ => cb (x9_change a0 a1 5 a2 g1) fun r6 g7 => gb (isO 9 g7 a0) fun _ => cb (x9_warmthNow a0 a1 g7) fun r11 g12 => some (r11, g12)
  else
  some (0, g1)
def x9_takeBlanket_j17 (a0 : Nat) (a1 : Int32) (a2 : Int32) (s0 : Nat) (g : AH) : Option (Int32 × AH) :=
  x9_takeBlanket_j34 a0 a1 a2 1 s0 g
def x9_takeBlanket (p : Nat) (b0 : Int32) (b1 : Int32) (g : AH) : Option (Int32 × AH) :=
  gb (isO 9 g p) fun _ => cb (x9_isHiker p b0 g) fun r1 g2 => if r1 = 0 then
  x9_takeBlanket_j17 p b0 b1 p g2
  else
  gb (isO 9 g2 p) fun _ => cb (x9_isBlanket p b1 g2) fun r7 g8 => if r7 = 0 then
  x9_takeBlanket_j17 p b0 b1 p g8
  else
  gb (isO 9 g8 p) fun _ => cb (x9_isOnPile p b1 g8) fun r13 g14 => if r13 = 0 then
  x9_takeBlanket_j34 p b0 b1 2 p g14
  else
  x9_takeBlanket_j34 p b0 b1 0 p g14
def x9_returnBlanket_j28 (a0 : Nat) (a1 : Int32) (s0 : Int32) (s1 : Nat) (g : AH) : Option (Int32 × AH) :=
  gb (putV 9 g s1 6 (.int s0)) fun g1 => gb (getI 9 g1 a0 6) fun x3 => if x3 ≤ 0 then
  gb (isO 9 g1 a0) fun _ => cb (x9_change a0 a1 5 (-1) g1) fun r6 g7 => some (r6, g7)
  else
  some (0, g1)
def x9_returnBlanket (p : Nat) (b0 : Int32) (g : AH) : Option (Int32 × AH) :=
  gb (isO 9 g p) fun _ => cb (x9_isHiker p b0 g) fun r1 g2 => if r1 = 0 then
  x9_returnBlanket_j28 p b0 1 p g2
  else
  gb (isO 9 g2 p) fun _ => cb (x9_get p b0 5 g2) fun r7 g8 => if r7 = (-1) then
  x9_returnBlanket_j28 p b0 2 p g8
  else
  x9_returnBlanket_j28 p b0 0 p g8
def x9_exchange (p : Nat) (b0 : Int32) (b1 : Int32) (g : AH) : Option (Unit × AH) :=
  gb (isO 9 g p) fun _ => cb (x9_get p b0 5 g) fun r1 g2 => gb (isO 9 g2 p) fun _ => cb (x9_get p b1 5 g2) fun r6 g7 => gb (isO 9 g7 p) fun _ => cb (x9_set p b0 5 r6 g7) fun r11 g12 => gb (isO 9 g12 p) fun _ => cb (x9_set p b1 5 r1 g12) fun r16 g17 => some ((), g17)
def x9_swapBlankets_j21 (a0 : Nat) (g : AH) : Option (Int32 × AH) :=
  gb (isO 9 g a0) fun _ => cb (x9_fail a0 1 g) fun r1 g2 => some (r1, g2)
def x9_swapBlankets_j47 (a0 : Nat) (g : AH) : Option (Int32 × AH) :=
  gb (isO 9 g a0) fun _ => cb (x9_fail a0 2 g) fun r1 g2 => some (r1, g2)
def x9_swapBlankets (p : Nat) (b0 : Int32) (b1 : Int32) (g : AH) : Option (Int32 × AH) :=
  gb (putV 9 g p 6 (.int 0)) fun g1 => gb (isO 9 g1 p) fun _ => cb (x9_isHiker p b0 g1) fun r3 g4 => if r3 = 0 then
  x9_swapBlankets_j21 p g4
  else
  gb (isO 9 g4 p) fun _ => cb (x9_isHiker p b1 g4) fun r9 g10 => if r9 = 0 then
  x9_swapBlankets_j21 p g10
  else
  if b0 = b1 then
  x9_swapBlankets_j47 p g10
  else
  gb (isO 9 g10 p) fun _ => cb (x9_get p b0 5 g10) fun r16 g17 => gb (isO 9 g17 p) fun _ => cb (x9_get p b1 5 g17) fun r21 g22 => if r16 = r21 then
  x9_swapBlankets_j47 p g22
  else
  gb (isO 9 g22 p) fun _ => cb (x9_record p g22) fun r27 g28 => gb (isO 9 g28 p) fun _ => cb (x9_exchange p b0 b1 g28) fun r32 g33 => gb (isO 9 g33 p) fun _ => cb (x9_countDeed p 0 g33) fun r37 g38 => some (r37, g38)
def x9_lieDown_j35 (a0 : Nat) (a1 : Int32) (a2 : Int32) (s0 : Int32) (s1 : Nat) (g : AH) : Option (Int32 × AH) :=
  gb (putV 9 g s1 6 (.int s0)) fun g1 => gb (getI 9 g1 a0 6) fun x3 => if x3 ≤ 0 then
  gb (isO 9 g1 a0) fun _ => cb (x9_change a0 a1 4 a2 g1) fun r6 g7 => gb (isO 9 g7 a0) fun _ => cb (x9_noise a0 a2 g7) fun r11 g12 => some (r11, g12)
  else
  some (0, g1)
def x9_lieDown_j17 (a0 : Nat) (a1 : Int32) (a2 : Int32) (s0 : Nat) (g : AH) : Option (Int32 × AH) :=
  x9_lieDown_j35 a0 a1 a2 1 s0 g
def x9_lieDown (p : Nat) (b0 : Int32) (b1 : Int32) (g : AH) : Option (Int32 × AH) :=
  gb (isO 9 g p) fun _ => cb (x9_isHiker p b0 g) fun r1 g2 => if r1 = 0 then
  x9_lieDown_j17 p b0 b1 p g2
  else
  gb (isO 9 g2 p) fun _ => cb (x9_isBunk p b1 g2) fun r7 g8 => if r7 = 0 then
  x9_lieDown_j17 p b0 b1 p g8
  else
  gb (isO 9 g8 p) fun _ => cb (x9_inBunk p b1 g8) fun r13 g14 => if r13 = (-1) then
  x9_lieDown_j35 p b0 b1 0 p g14
  else
  x9_lieDown_j35 p b0 b1 2 p g14
def x9_getUp_j28 (a0 : Nat) (a1 : Int32) (s0 : Int32) (s1 : Nat) (g : AH) : Option (Int32 × AH) :=
  gb (putV 9 g s1 6 (.int s0)) fun g1 => gb (getI 9 g1 a0 6) fun x3 => if x3 ≤ 0 then
  gb (isO 9 g1 a0) fun _ => cb (x9_change a0 a1 4 (-1) g1) fun r6 g7 => some (r6, g7)
  else
  some (0, g1)
def x9_getUp (p : Nat) (b0 : Int32) (g : AH) : Option (Int32 × AH) :=
  gb (isO 9 g p) fun _ => cb (x9_isHiker p b0 g) fun r1 g2 => if r1 = 0 then
  x9_getUp_j28 p b0 1 p g2
  else
  gb (isO 9 g2 p) fun _ => cb (x9_get p b0 4 g2) fun r7 g8 => if r7 = (-1) then
  x9_getUp_j28 p b0 2 p g8
  else
  x9_getUp_j28 p b0 0 p g8
def x9_setRate (p : Nat) (b0 : Int32) (g : AH) : Option (Int32 × AH) :=
  gb (putV 9 g p 6 (.int 0)) fun g1 => cb (x9_isBetween b0 0 3 g1) fun r3 g4 => if r3 = 0 then
  gb (isO 9 g4 p) fun _ => cb (x9_fail p 1 g4) fun r20 g21 => some (r20, g21)
  else
  gb (isO 9 g4 p) fun _ => cb (x9_record p g4) fun r7 g8 => gb (getR 9 g8 p 0) fun x12 => gb (aldI 0 g8 x12 1) fun x14 => gb (getR 9 g8 p 0) fun x16 => gb (astI 0 g8 x16 1 b0) fun g18 => some (x14, g18)
def x9_fetchLogs_j33 (a0 : Nat) (a1 : Int32) (s0 : Int32) (s1 : Nat) (g : AH) : Option (Int32 × AH) :=
  gb (putV 9 g s1 6 (.int s0)) fun g1 => gb (getI 9 g1 a0 6) fun x3 => if x3 ≤ 0 then
  gb (isO 9 g1 a0) fun _ => cb (x9_record a0 g1) fun r6 g7 => gb (getR 9 g7 a0 0) fun x11 => gb (aldI 0 g7 x11 0) fun x13 => gb (astI 0 g7 x11 0 (x13 + a1)) fun g15 => gb (getR 9 g15 a0 0) fun x17 => gb (aldI 0 g15 x17 8) fun x19 => gb (astI 0 g15 x17 8 (x19 + a1)) fun g21 => gb (getR 9 g21 a0 0) fun x23 => gb (aldI 0 g21 x23 0) fun x25 => some (x25, g21)
  else
  some (0, g1)
def x9_fetchLogs (p : Nat) (b0 : Int32) (g : AH) : Option (Int32 × AH) :=
  cb (x9_isBetween b0 1 50 g) fun r1 g2 => if r1 = 0 then
  x9_fetchLogs_j33 p b0 1 p g2
  else
  gb (getR 9 g2 p 0) fun x5 => gb (aldI 0 g2 x5 0) fun x7 => if (x7 + b0) ≤ 99 then
  x9_fetchLogs_j33 p b0 0 p g2
  else
  x9_fetchLogs_j33 p b0 2 p g2
def x9_payDebt_j55 (a0 : Nat) (g : AH) : Option (Int32 × AH) :=
  gb (isO 9 g a0) fun _ => cb (x9_fail a0 3 g) fun r1 g2 => some (r1, g2)
def x9_payDebt (p : Nat) (b0 : Int32) (b1 : Int32) (g : AH) : Option (Int32 × AH) :=
  gb (putV 9 g p 6 (.int 0)) fun g1 => gb (isO 9 g1 p) fun _ => cb (x9_isHiker p b0 g1) fun r3 g4 => if r3 = 0 then
  gb (isO 9 g4 p) fun _ => cb (x9_fail p 1 g4) fun r56 g57 => some (r56, g57)
  else
  cb (x9_isBetween b1 1 99 g4) fun r9 g10 => if r9 = 0 then
  gb (isO 9 g10 p) fun _ => cb (x9_fail p 2 g10) fun r51 g52 => some (r51, g52)
  else
  gb (isO 9 g10 p) fun _ => cb (x9_get p b0 2 g10) fun r13 g14 => if r13 < b1 then
  x9_payDebt_j55 p g14
  else
  gb (isO 9 g14 p) fun _ => cb (x9_get p b0 3 g14) fun r19 g20 => if b1 ≤ r19 then
  gb (isO 9 g20 p) fun _ => cb (x9_record p g20) fun r25 g26 => gb (isO 9 g26 p) fun _ => cb (x9_increase p b0 2 (-b1) g26) fun r30 g31 => gb (isO 9 g31 p) fun _ => cb (x9_increase p b0 3 (-b1) g31) fun r35 g36 => gb (getR 9 g36 p 0) fun x40 => gb (aldI 0 g36 x40 6) fun x42 => gb (astI 0 g36 x40 6 (x42 + b1)) fun g44 => gb (isO 9 g44 p) fun _ => cb (x9_get p b0 3 g44) fun r46 g47 => some (r46, g47)
  else
  x9_payDebt_j55 p g20
def x9_passHours_j34 (a0 : Nat) (a1 : Int32) (s0 : Int32) (s1 : Nat) (g : AH) : Option (Int32 × AH) :=
  gb (putV 9 g s1 6 (.int s0)) fun g1 => gb (getI 9 g1 a0 6) fun x3 => if x3 ≤ 0 then
  gb (isO 9 g1 a0) fun _ => cb (x9_record a0 g1) fun r6 g7 => gb (getR 9 g7 a0 0) fun x11 => gb (aldI 0 g7 x11 6) fun x13 => gb (isO 9 g7 a0) fun _ => cb (x9_passMany a0 a1 g7) fun r15 g16 => gb (getR 9 g16 a0 0) fun x20 => gb (aldI 0 g16 x20 6) fun x22 => some ((x22 - x13), g16)
  else
  some (0, g1)
def x9_passHours (p : Nat) (b0 : Int32) (g : AH) : Option (Int32 × AH) :=
  cb (x9_isBetween b0 1 48 g) fun r1 g2 => if r1 = 0 then
  x9_passHours_j34 p b0 1 p g2
  else
  gb (getR 9 g2 p 0) fun x5 => gb (aldI 0 g2 x5 3) fun x7 => if (x7 + b0) ≤ 9999 then
  x9_passHours_j34 p b0 0 p g2
  else
  x9_passHours_j34 p b0 2 p g2
def x9_execute_j163 (a0 : Nat) (g : AH) : Option (Int32 × AH) :=
  gb (getI 9 g a0 6) fun x1 => if x1 = 0 then
  some (1, g)
  else
  some (0, g)
def x9_execute (p : Nat) (b0 : Int32) (g : AH) : Option (Int32 × AH) :=
  gb (getR 9 g p 16) fun x1 => gb (aldI 0 g x1 (b0 + 1)) fun x3 => gb (getR 9 g p 16) fun x5 => gb (aldI 0 g x5 (b0 + 2)) fun x7 => gb (getR 9 g p 16) fun x9 => gb (aldI 0 g x9 b0) fun x11 => if x11 = 0 then
  gb (isO 9 g p) fun _ => cb (x9_takeBlanket p x3 x7 g) fun r14 g15 => x9_execute_j163 p g15
  else if x11 = 1 then
  gb (isO 9 g p) fun _ => cb (x9_returnBlanket p x3 g) fun r20 g21 => x9_execute_j163 p g21
  else if x11 = 2 then
  gb (isO 9 g p) fun _ => cb (x9_swapBlankets p x3 x7 g) fun r26 g27 => x9_execute_j163 p g27
  else if x11 = 3 then
  gb (isO 9 g p) fun _ => cb (x9_lieDown p x3 x7 g) fun r32 g33 => x9_execute_j163 p g33
  else if x11 = 4 then
  gb (isO 9 g p) fun _ => cb (x9_getUp p x3 g) fun r38 g39 => x9_execute_j163 p g39
  else if x11 = 5 then
  gb (isO 9 g p) fun _ => cb (x9_setRate p x3 g) fun r44 g45 => x9_execute_j163 p g45
  else if x11 = 6 then
  gb (isO 9 g p) fun _ => cb (x9_fetchLogs p x3 g) fun r50 g51 => x9_execute_j163 p g51
  else if x11 = 7 then
  gb (isO 9 g p) fun _ => cb (x9_payDebt p x3 x7 g) fun r56 g57 => x9_execute_j163 p g57
  else gb (isO 9 g p) fun _ => cb (x9_passHours p x3 g) fun r61 g62 => x9_execute_j163 p g62
def x9_runScript_l9 (a0 : Nat) (s0 : Unit) (g : AH) : Option (((Unit) ⊕ (Unit)) × AH) :=
  gb (isO 9 g a0) fun _ => cb (x9_isFine a0 g) fun r1 g2 => if r1 = 0 then
  some (.inr (), g2)
  else
  gb (getI 9 g2 a0 10) fun x7 => if x7 = 0 then
  some (.inr (), g2)
  else
  gb (isO 9 g2 a0) fun _ => cb (x9_parseCommand a0 g2) fun r10 g11 => some (.inl (), g11)
def x9_runScript_l46 (a0 : Nat) (s0 : Int32) (g : AH) : Option (((Int32) ⊕ (Int32)) × AH) :=
  gb (getI 9 g a0 17) fun x1 => if x1 ≤ s0 then
  some (.inr s0, g)
  else
  gb (isO 9 g a0) fun _ => cb (x9_execute a0 (3 * s0) g) fun r4 g5 => if r4 = 0 then
  some (.inr s0, g5)
  else
  some (.inl (s0 + 1), g5)
def x9_runScript_j70 (a0 : Nat) (a1 : Int32) (g : AH) : Option (Int32 × AH) :=
  gb (isO 9 g a0) fun _ => cb (x9_tell a0 a1 g) fun r1 g2 => some (r1, g2)
def x9_runScript_j30 (a0 : Nat) (g : AH) : Option (Int32 × AH) :=
  gb (putV 9 g a0 9 (.int 0)) fun g1 => gb (isO 9 g1 a0) fun _ => cb (x9_isFine a0 g1) fun r3 g4 => if r3 = 0 then
  some ((-1), g4)
  else
  cb (loopX (x9_runScript_l46 a0) 1000 0 g4) fun t9 g10 =>
  x9_runScript_j70 a0 t9 g10
def x9_runScript (p : Nat) (g : AH) : Option (Int32 × AH) :=
  gb (putV 9 g p 6 (.int 0)) fun g1 => gb (isO 9 g1 p) fun _ => cb (x9_startText p g1) fun r3 g4 => cb (loopX (x9_runScript_l9 p) 1000 () g4) fun t8 g9 =>
  x9_runScript_j30 p g9
def x9_errorCode (p : Nat) (g : AH) : Option (Int32 × AH) :=
  gb (getI 9 g p 14) fun x1 => gb (isO 9 g p) fun _ => cb (x9_tell p x1 g) fun r3 g4 => some (r3, g4)
def x9_errorPosition (p : Nat) (g : AH) : Option (Int32 × AH) :=
  gb (getI 9 g p 15) fun x1 => gb (isO 9 g p) fun _ => cb (x9_tell p x1 g) fun r3 g4 => some (r3, g4)
def x9_hour (p : Nat) (g : AH) : Option (Int32 × AH) :=
  gb (getR 9 g p 0) fun x1 => gb (aldI 0 g x1 3) fun x3 => gb (isO 9 g p) fun _ => cb (x9_tell p x3 g) fun r5 g6 => some (r5, g6)
def x9_hoursUntilDawn (p : Nat) (g : AH) : Option (Int32 × AH) :=
  gb (isO 9 g p) fun _ => cb (x9_toDawn p g) fun r1 g2 => gb (isO 9 g2 p) fun _ => cb (x9_tell p r1 g2) fun r6 g7 => some (r6, g7)
def x9_logs (p : Nat) (g : AH) : Option (Int32 × AH) :=
  gb (getR 9 g p 0) fun x1 => gb (aldI 0 g x1 0) fun x3 => gb (isO 9 g p) fun _ => cb (x9_tell p x3 g) fun r5 g6 => some (r5, g6)
def x9_temperature (p : Nat) (g : AH) : Option (Int32 × AH) :=
  gb (isO 9 g p) fun _ => cb (x9_inside p g) fun r1 g2 => gb (isO 9 g2 p) fun _ => cb (x9_tell p r1 g2) fun r6 g7 => some (r6, g7)
def x9_hikerIn (p : Nat) (b0 : Int32) (g : AH) : Option (Int32 × AH) :=
  gb (putV 9 g p 6 (.int 0)) fun g1 => gb (isO 9 g1 p) fun _ => cb (x9_isBunk p b0 g1) fun r3 g4 => if r3 = 0 then
  gb (isO 9 g4 p) fun _ => cb (x9_fail p 1 g4) fun r9 g10 => some (r9, g10)
  else
  gb (isO 9 g4 p) fun _ => cb (x9_inBunk p b0 g4) fun r14 g15 => some (r14, g15)
def x9_noiseIn (p : Nat) (b0 : Int32) (g : AH) : Option (Int32 × AH) :=
  gb (putV 9 g p 6 (.int 0)) fun g1 => gb (isO 9 g1 p) fun _ => cb (x9_isBunk p b0 g1) fun r3 g4 => if r3 = 0 then
  gb (isO 9 g4 p) fun _ => cb (x9_fail p 1 g4) fun r9 g10 => some (r9, g10)
  else
  gb (isO 9 g4 p) fun _ => cb (x9_noise p b0 g4) fun r14 g15 => some (r14, g15)
def x9_isQuieter_j41  (g : AH) : Option (Int32 × AH) :=
  some (1, g)
def x9_isQuieter (p : Nat) (b0 : Int32) (b1 : Int32) (g : AH) : Option (Int32 × AH) :=
  gb (isO 9 g p) fun _ => cb (x9_noise p b1 g) fun r1 g2 => gb (isO 9 g2 p) fun _ => cb (x9_noise p b0 g2) fun r6 g7 => if 0 < (r1 - r6) then
  x9_isQuieter_j41  g7
  else
  if (r1 - r6) = 0 then
  gb (getR 9 g7 p 0) fun x13 => gb (aldI 0 g7 x13 (13 + b0)) fun x15 => gb (getR 9 g7 p 0) fun x17 => gb (aldI 0 g7 x17 (13 + b1)) fun x19 => if x15 ≤ x19 then
  some (0, g7)
  else
  x9_isQuieter_j41  g7
  else
  some (0, g7)
def x9_quietestBunk_j45_9 (a0 : Nat) (a1 : Int32) (a2 : Int32) (g : AH) : Option (((Int32 × Int32) ⊕ (Int32)) × AH) :=
  some (.inl (a1, (a2 + 1)), g)
def x9_quietestBunk_j43_9 (a0 : Nat) (a2 : Int32) (g : AH) : Option (((Int32 × Int32) ⊕ (Int32)) × AH) :=
  x9_quietestBunk_j45_9 a0 a2 a2 g
def x9_quietestBunk_l9 (a0 : Nat) (s0 : Int32 × Int32) (g : AH) : Option (((Int32 × Int32) ⊕ (Int32)) × AH) :=
  gb (getR 9 g a0 0) fun x1 => gb (aldI 0 g x1 9) fun x3 => if x3 ≤ s0.2 then
  some (.inr s0.1, g)
  else
  gb (isO 9 g a0) fun _ => cb (x9_inBunk a0 s0.2 g) fun r6 g7 => if r6 = (-1) then
  if s0.1 = (-1) then
  x9_quietestBunk_j43_9 a0 s0.2 g7
  else
  gb (isO 9 g7 a0) fun _ => cb (x9_isQuieter a0 s0.2 s0.1 g7) fun r13 g14 => if r13 = 0 then
  x9_quietestBunk_j45_9 a0 s0.1 s0.2 g14
  else
  x9_quietestBunk_j43_9 a0 s0.2 g14
  else
  x9_quietestBunk_j45_9 a0 s0.1 s0.2 g7
def x9_quietestBunk (p : Nat) (g : AH) : Option (Int32 × AH) :=
  gb (putV 9 g p 6 (.int 0)) fun g1 => cb (loopX (x9_quietestBunk_l9 p) 1000 ((-1), 0) g1) fun t3 g4 =>
  some (t3, g4)
def x9_longestRow_j38_11 (a0 : Nat) (a1 : Int32) (a3 : Int32) (s0 : Int32) (g : AH) : Option (((Int32 × Int32 × Int32) ⊕ (Int32)) × AH) :=
  some (.inl ((if a1 < s0 then s0 else a1), s0, (a3 + 1)), g)
def x9_longestRow_l11 (a0 : Nat) (s0 : Int32 × Int32 × Int32) (g : AH) : Option (((Int32 × Int32 × Int32) ⊕ (Int32)) × AH) :=
  gb (getR 9 g a0 0) fun x1 => gb (aldI 0 g x1 9) fun x3 => if x3 ≤ s0.2.2 then
  some (.inr s0.1, g)
  else
  gb (isO 9 g a0) fun _ => cb (x9_inBunk a0 s0.2.2 g) fun r6 g7 => if r6 = (-1) then
  x9_longestRow_j38_11 a0 s0.1 s0.2.2 0 g7
  else
  x9_longestRow_j38_11 a0 s0.1 s0.2.2 (s0.2.1 + 1) g7
def x9_longestRow (p : Nat) (g : AH) : Option (Int32 × AH) :=
  gb (putV 9 g p 6 (.int 0)) fun g1 => cb (loopX (x9_longestRow_l11 p) 1000 (0, 0, 0) g1) fun t3 g4 =>
  some (t3, g4)
def x9_sleepersWith (p : Nat) (b0 : Int32) (b1 : Int32) (g : AH) : Option (Int32 × AH) :=
  gb (isO 9 g p) fun _ => cb (x9_set p b0 4 b1 g) fun r1 g2 => gb (isO 9 g2 p) fun _ => cb (x9_countDeed p 2 g2) fun r6 g7 => some (r6, g7)
def x9_sleepersIf (p : Nat) (b0 : Int32) (b1 : Int32) (g : AH) : Option (Int32 × AH) :=
  gb (isO 9 g p) fun _ => cb (x9_goAside p g) fun r1 g2 => gb (isO 9 g2 p) fun _ => cb (x9_sleepersWith p b0 b1 g2) fun r6 g7 => gb (isO 9 g7 p) fun _ => cb (x9_comeBack p r6 g7) fun r11 g12 => some (r11, g12)
def x9_isFreeFor_j18  (g : AH) : Option (Int32 × AH) :=
  some (1, g)
def x9_isFreeFor (p : Nat) (b0 : Int32) (b1 : Int32) (g : AH) : Option (Int32 × AH) :=
  gb (isO 9 g p) fun _ => cb (x9_inBunk p b1 g) fun r1 g2 => if r1 = (-1) then
  x9_isFreeFor_j18  g2
  else
  gb (isO 9 g2 p) fun _ => cb (x9_inBunk p b1 g2) fun r7 g8 => if r7 = b0 then
  x9_isFreeFor_j18  g8
  else
  some (0, g8)
def x9_bestPlaceFor_j78_31 (a0 : Nat) (a1 : Int32) (a3 : Int32) (a4 : Int32) (a5 : Int32) (s0 : Int32) (g : AH) : Option (((Int32 × Int32 × Int32) ⊕ (Int32)) × AH) :=
  some (.inl (s0, (if a3 < a5 then a5 else a3), (a4 + 1)), g)
def x9_bestPlaceFor_j64_31 (a0 : Nat) (a1 : Int32) (a2 : Int32) (a3 : Int32) (a4 : Int32) (s0 : Int32) (g : AH) : Option (((Int32 × Int32 × Int32) ⊕ (Int32)) × AH) :=
  if s0 ≤ a3 then
  x9_bestPlaceFor_j78_31 a0 a1 a3 a4 s0 a2 g
  else
  x9_bestPlaceFor_j78_31 a0 a1 a3 a4 s0 a4 g
def x9_bestPlaceFor_l31 (a0 : Nat) (a1 : Int32) (s0 : Int32 × Int32 × Int32) (g : AH) : Option (((Int32 × Int32 × Int32) ⊕ (Int32)) × AH) :=
  gb (getR 9 g a0 0) fun x1 => gb (aldI 0 g x1 9) fun x3 => if x3 ≤ s0.2.2 then
  some (.inr s0.1, g)
  else
  gb (isO 9 g a0) fun _ => cb (x9_isFreeFor a0 a1 s0.2.2 g) fun r6 g7 => if r6 = 0 then
  x9_bestPlaceFor_j64_31 a0 a1 s0.1 s0.2.1 s0.2.2 0 g7
  else
  gb (isO 9 g7 a0) fun _ => cb (x9_sleepersIf a0 a1 s0.2.2 g7) fun r12 g13 => x9_bestPlaceFor_j64_31 a0 a1 s0.1 s0.2.1 s0.2.2 r12 g13
def x9_bestPlaceFor (p : Nat) (b0 : Int32) (g : AH) : Option (Int32 × AH) :=
  gb (putV 9 g p 6 (.int 0)) fun g1 => gb (isO 9 g1 p) fun _ => cb (x9_isHiker p b0 g1) fun r3 g4 => if r3 = 0 then
  gb (isO 9 g4 p) fun _ => cb (x9_fail p 1 g4) fun r17 g18 => some (r17, g18)
  else
  gb (isO 9 g4 p) fun _ => cb (x9_sleepersIf p b0 (-1) g4) fun r9 g10 => cb (loopX (x9_bestPlaceFor_l31 p b0) 1000 ((-1), r9, 0) g10) fun t14 g15 =>
  some (t14, g15)
def x9_userOf (p : Nat) (b0 : Int32) (g : AH) : Option (Int32 × AH) :=
  gb (putV 9 g p 6 (.int 0)) fun g1 => gb (isO 9 g1 p) fun _ => cb (x9_isBlanket p b0 g1) fun r3 g4 => if r3 = 0 then
  gb (isO 9 g4 p) fun _ => cb (x9_fail p 1 g4) fun r9 g10 => some (r9, g10)
  else
  gb (isO 9 g4 p) fun _ => cb (x9_hikerWith p 5 b0 g4) fun r14 g15 => some (r14, g15)
def x9_countPile_j29_4 (a0 : Nat) (a2 : Int32) (s0 : Int32) (s1 : Int32) (g : AH) : Option (((Int32 × Int32) ⊕ (Int32)) × AH) :=
  some (.inl ((s1 + s0), (a2 + 1)), g)
def x9_countPile_l4 (a0 : Nat) (s0 : Int32 × Int32) (g : AH) : Option (((Int32 × Int32) ⊕ (Int32)) × AH) :=
  gb (getR 9 g a0 0) fun x1 => gb (aldI 0 g x1 10) fun x3 => if x3 ≤ s0.2 then
  some (.inr s0.1, g)
  else
  gb (isO 9 g a0) fun _ => cb (x9_isOnPile a0 s0.2 g) fun r6 g7 => if r6 = 0 then
  x9_countPile_j29_4 a0 s0.2 0 s0.1 g7
  else
  x9_countPile_j29_4 a0 s0.2 1 s0.1 g7
def x9_countPile (p : Nat) (g : AH) : Option (Int32 × AH) :=
  cb (loopX (x9_countPile_l4 p) 1000 (0, 0) g) fun t1 g2 =>
  some (t1, g2)
def x9_rankOnPile_j65_4 (a0 : Nat) (a1 : Int32) (a3 : Int32) (s0 : Int32) (s1 : Int32) (g : AH) : Option (((Int32 × Int32) ⊕ (Int32)) × AH) :=
  some (.inl ((s1 + s0), (a3 + 1)), g)
def x9_rankOnPile_j64_4 (a0 : Nat) (a1 : Int32) (a3 : Int32) (s0 : Int32) (g : AH) : Option (((Int32 × Int32) ⊕ (Int32)) × AH) :=
  x9_rankOnPile_j65_4 a0 a1 a3 0 s0 g
def x9_rankOnPile_j60_4 (a0 : Nat) (a1 : Int32) (a3 : Int32) (s0 : Int32) (g : AH) : Option (((Int32 × Int32) ⊕ (Int32)) × AH) :=
  x9_rankOnPile_j65_4 a0 a1 a3 1 s0 g
def x9_rankOnPile_l4 (a0 : Nat) (a1 : Int32) (s0 : Int32 × Int32) (g : AH) : Option (((Int32 × Int32) ⊕ (Int32)) × AH) :=
  gb (getR 9 g a0 0) fun x1 => gb (aldI 0 g x1 10) fun x3 => if x3 ≤ s0.2 then
  some (.inr s0.1, g)
  else
  gb (getR 9 g a0 0) fun x6 => gb (aldI 0 g x6 (25 + s0.2)) fun x8 => gb (getR 9 g a0 0) fun x10 => gb (aldI 0 g x10 (25 + a1)) fun x12 => gb (isO 9 g a0) fun _ => cb (x9_isOnPile a0 s0.2 g) fun r14 g15 => if r14 = 0 then
  x9_rankOnPile_j64_4 a0 a1 s0.2 s0.1 g15
  else
  if 0 < (x8 - x12) then
  x9_rankOnPile_j60_4 a0 a1 s0.2 s0.1 g15
  else
  if (x8 - x12) = 0 then
  if a1 ≤ s0.2 then
  x9_rankOnPile_j64_4 a0 a1 s0.2 s0.1 g15
  else
  x9_rankOnPile_j60_4 a0 a1 s0.2 s0.1 g15
  else
  x9_rankOnPile_j64_4 a0 a1 s0.2 s0.1 g15
def x9_rankOnPile (p : Nat) (b0 : Int32) (g : AH) : Option (Int32 × AH) :=
  cb (loopX (x9_rankOnPile_l4 p b0) 1000 (0, 0) g) fun t1 g2 =>
  some (t1, g2)
def x9_blanketOnPile_j37_7 (a0 : Nat) (a1 : Int32) (a2 : Int32) (g : AH) : Option (((Int32) ⊕ ((Unit) ⊕ Int32)) × AH) :=
  some (.inl (a2 + 1), g)
def x9_blanketOnPile_l7 (a0 : Nat) (a1 : Int32) (s0 : Int32) (g : AH) : Option (((Int32) ⊕ ((Unit) ⊕ Int32)) × AH) :=
  gb (getR 9 g a0 0) fun x1 => gb (aldI 0 g x1 10) fun x3 => if x3 ≤ s0 then
  some (.inr (.inl ()), g)
  else
  gb (isO 9 g a0) fun _ => cb (x9_isOnPile a0 s0 g) fun r6 g7 => if r6 = 0 then
  x9_blanketOnPile_j37_7 a0 a1 s0 g7
  else
  gb (isO 9 g7 a0) fun _ => cb (x9_rankOnPile a0 s0 g7) fun r12 g13 => if r12 = a1 then
  some (.inr (.inr s0), g13)
  else
  x9_blanketOnPile_j37_7 a0 a1 s0 g13
def x9_blanketOnPile (p : Nat) (b0 : Int32) (g : AH) : Option (Int32 × AH) :=
  gb (putV 9 g p 6 (.int 0)) fun g1 => cb (loopX (x9_blanketOnPile_l7 p b0) 1000 0 g1) fun t3 g4 => Sum.elim (fun t6 =>
  gb (isO 9 g4 p) fun _ => cb (x9_fail p 1 g4) fun r8 g9 => some (r8, g9)) (fun t7 => some (t7, g4)) t3
def x9_pileSize (p : Nat) (g : AH) : Option (Int32 × AH) :=
  gb (putV 9 g p 6 (.int 0)) fun g1 => gb (isO 9 g1 p) fun _ => cb (x9_countPile p g1) fun r3 g4 => some (r3, g4)
def x9_fittingBlanket_j106_23 (a0 : Nat) (a1 : Int32) (a3 : Int32) (s0 : Int32) (g : AH) : Option (((Int32 × Int32) ⊕ (Int32)) × AH) :=
  some (.inl (s0, (a3 + 1)), g)
def x9_fittingBlanket_j105_23 (a0 : Nat) (a1 : Int32) (a2 : Int32) (a3 : Int32) (g : AH) : Option (((Int32 × Int32) ⊕ (Int32)) × AH) :=
  x9_fittingBlanket_j106_23 a0 a1 a3 a2 g
def x9_fittingBlanket_j101_23 (a0 : Nat) (a1 : Int32) (a3 : Int32) (g : AH) : Option (((Int32 × Int32) ⊕ (Int32)) × AH) :=
  x9_fittingBlanket_j106_23 a0 a1 a3 a3 g
def x9_fittingBlanket_j75_23 (a0 : Nat) (a1 : Int32) (a2 : Int32) (a3 : Int32) (a4 : Int32) (s0 : Int32) (g : AH) : Option (((Int32 × Int32) ⊕ (Int32)) × AH) :=
  if s0 = 0 then
  x9_fittingBlanket_j105_23 a0 a1 a2 a3 g
  else
  if a2 = (-1) then
  x9_fittingBlanket_j101_23 a0 a1 a3 g
  else
  gb (getR 9 g a0 0) fun x3 => gb (aldI 0 g x3 (25 + a2)) fun x5 => if x5 ≤ a4 then
  x9_fittingBlanket_j105_23 a0 a1 a2 a3 g
  else
  x9_fittingBlanket_j101_23 a0 a1 a3 g
def x9_fittingBlanket_j74_23 (a0 : Nat) (a1 : Int32) (a2 : Int32) (a3 : Int32) (a4 : Int32) (g : AH) : Option (((Int32 × Int32) ⊕ (Int32)) × AH) :=
  x9_fittingBlanket_j75_23 a0 a1 a2 a3 a4 0 g
def x9_fittingBlanket_l23 (a0 : Nat) (a1 : Int32) (s0 : Int32 × Int32) (g : AH) : Option (((Int32 × Int32) ⊕ (Int32)) × AH) :=
  gb (getR 9 g a0 0) fun x1 => gb (aldI 0 g x1 10) fun x3 => if x3 ≤ s0.2 then
  some (.inr s0.1, g)
  else
  gb (getR 9 g a0 0) fun x6 => gb (aldI 0 g x6 (25 + s0.2)) fun x8 => gb (isO 9 g a0) fun _ => cb (x9_isOnPile a0 s0.2 g) fun r10 g11 => if r10 = 0 then
  x9_fittingBlanket_j74_23 a0 a1 s0.1 s0.2 x8 g11
  else
  gb (isO 9 g11 a0) fun _ => cb (x9_warmthBare a0 a1 g11) fun r16 g17 => gb (isO 9 g17 a0) fun _ => cb (x9_get a0 a1 0 g17) fun r21 g22 => if (r16 + x8) < r21 then
  x9_fittingBlanket_j74_23 a0 a1 s0.1 s0.2 x8 g22
  else
  x9_fittingBlanket_j75_23 a0 a1 s0.1 s0.2 x8 1 g22
def x9_fittingBlanket (p : Nat) (b0 : Int32) (g : AH) : Option (Int32 × AH) :=
  gb (putV 9 g p 6 (.int 0)) fun g1 => gb (isO 9 g1 p) fun _ => cb (x9_isHiker p b0 g1) fun r3 g4 => if r3 = 0 then
  gb (isO 9 g4 p) fun _ => cb (x9_fail p 1 g4) fun r12 g13 => some (r12, g13)
  else
  cb (loopX (x9_fittingBlanket_l23 p b0) 1000 ((-1), 0) g4) fun t9 g10 =>
  some (t9, g10)
def x9_hikerCount (p : Nat) (g : AH) : Option (Int32 × AH) :=
  gb (getR 9 g p 0) fun x1 => gb (aldI 0 g x1 12) fun x3 => gb (isO 9 g p) fun _ => cb (x9_tell p x3 g) fun r5 g6 => some (r5, g6)
def x9_tellOf (p : Nat) (b0 : Int32) (b1 : Int32) (g : AH) : Option (Int32 × AH) :=
  gb (putV 9 g p 6 (.int 0)) fun g1 => gb (isO 9 g1 p) fun _ => cb (x9_isHiker p b0 g1) fun r3 g4 => if r3 = 0 then
  gb (isO 9 g4 p) fun _ => cb (x9_fail p 1 g4) fun r9 g10 => some (r9, g10)
  else
  gb (isO 9 g4 p) fun _ => cb (x9_get p b0 b1 g4) fun r14 g15 => some (r14, g15)
def x9_bunkOf (p : Nat) (b0 : Int32) (g : AH) : Option (Int32 × AH) :=
  gb (isO 9 g p) fun _ => cb (x9_tellOf p b0 4 g) fun r1 g2 => some (r1, g2)
def x9_blanketOf (p : Nat) (b0 : Int32) (g : AH) : Option (Int32 × AH) :=
  gb (isO 9 g p) fun _ => cb (x9_tellOf p b0 5 g) fun r1 g2 => some (r1, g2)
def x9_warmth (p : Nat) (b0 : Int32) (g : AH) : Option (Int32 × AH) :=
  gb (putV 9 g p 6 (.int 0)) fun g1 => gb (isO 9 g1 p) fun _ => cb (x9_isHiker p b0 g1) fun r3 g4 => if r3 = 0 then
  gb (isO 9 g4 p) fun _ => cb (x9_fail p 1 g4) fun r9 g10 => some (r9, g10)
  else
  gb (isO 9 g4 p) fun _ => cb (x9_warmthNow p b0 g4) fun r14 g15 => some (r14, g15)
set_option maxHeartbeats 4000000 in
set_option maxRecDepth 100000 in
theorem t_x9_parseHut_j113_89 {l : Launch} {G : GG} {M : MC} (X : CX M G cX9_parseHut 1 RX9 ⟨8, 0, 0, 245⟩) (hl0 : M.2.1 = l) (hr : (mM M).sig.returnType = none) (hnm : (mM M).name = yX9_parseHut.name) {Q : State → Prop} {kc ks : Nat} {s9 : ((Unit) ⊕ (Unit))} {g1 : AH} {a0 : Nat} (hc : ∀ s1, s9 = .inl s1 → WW M G 1 Q kc ks g1 89 [(0, .ref a0)] []) (hx : ∀ t, s9 = .inr t → WW M G 1 Q kc ks g1 120 [] []) {g : AH} (E : x9_parseHut_j113_89 a0 g = some (s9, g1)) : WW M G 1 Q kc ks g 113 [(0, .ref a0)] [] := by
  unfold x9_parseHut_j113_89 at E
  refine r_aload_n X 0 dX9_parseHut_113 rfl rfl ?_
  obtain ⟨u4, e5, E⟩ := gb_some E
  obtain ⟨r1, g2, e3, E⟩ := cb_some E
  refine r_callV0 X hl0 (ci := 9) dX9_parseHut_114 y_X9_parseHiker m_X9_226 rfl rfl e5 (t_x9_parseHiker (l := l) (G := G) e3) rfl rfl (Nat.le_of_ble_eq_true rfl) (by decide) ?_
  refine r_goto X 89 dX9_parseHut_117 (by decide) ?_
  cases E
  exact r_pick (by rfl : lpick [(0, .ref a0)] [0] = _) (hc _ rfl)
set_option maxHeartbeats 4000000 in
set_option maxRecDepth 100000 in
theorem t_x9_parseHut_l89 {l : Launch} {G : GG} {M : MC} (X : CX M G cX9_parseHut 1 RX9 ⟨8, 0, 0, 245⟩) (hl0 : M.2.1 = l) (hr : (mM M).sig.returnType = none) (hnm : (mM M).name = yX9_parseHut.name) {Q : State → Prop} {kc ks : Nat} {s9 : ((Unit) ⊕ (Unit))} {g1 : AH} {a0 : Nat} {s0 : Unit} (hc : ∀ s1, s9 = .inl s1 → WW M G 1 Q kc ks g1 89 [(0, .ref a0)] []) (hx : ∀ t, s9 = .inr t → WW M G 1 Q kc ks g1 120 [] []) {g : AH} (E : x9_parseHut_l89 a0 s0 g = some (s9, g1)) : WW M G 1 Q kc ks g 89 [(0, .ref a0)] [] := by
  unfold x9_parseHut_l89 at E
  refine r_aload_n X 0 dX9_parseHut_89 rfl rfl ?_
  obtain ⟨u4, e5, E⟩ := gb_some E
  obtain ⟨r1, g2, e3, E⟩ := cb_some E
  refine r_callV0 X hl0 (ci := 9) dX9_parseHut_90 y_X9_isFine m_X9_147 rfl rfl e5 (t_x9_isFine (l := l) (G := G) e3) rfl rfl (Nat.le_of_ble_eq_true rfl) (by decide) ?_
  refine r_if_eq X 120 dX9_parseHut_93 (by decide) (fun c6 => ?_) (fun c6 => ?_)
  · rw [if_pos c6] at E
    cases E
    exact r_pick (by rfl : lpick [(0, .ref a0)] [] = _) (hx _ rfl)
  · rw [if_neg c6] at E
    refine r_aload_n X 0 dX9_parseHut_96 rfl rfl ?_
    obtain ⟨x7, e8, E⟩ := gb_some E
    refine r_getR X dX9_parseHut_97 f_X9_7 e8 ?_
    refine r_bipush X (v := 12) dX9_parseHut_100 (by decide) ?_
    obtain ⟨x9, e10, E⟩ := gb_some E
    refine r_iald X dX9_parseHut_102 e10 ?_
    refine r_if_eq X 113 dX9_parseHut_103 (by decide) (fun c11 => ?_) (fun c11 => ?_)
    · rw [if_pos c11] at E
      exact r_pick (by rfl : lpick [(0, .ref a0)] [0] = _) (t_x9_parseHut_j113_89 X hl0 hr hnm hc hx E)
    · rw [if_neg c11] at E
      refine r_aload_n X 0 dX9_parseHut_106 rfl rfl ?_
      obtain ⟨x12, e13, E⟩ := gb_some E
      refine r_getI X dX9_parseHut_107 f_X9_160 e13 ?_
      refine r_if_eq X 120 dX9_parseHut_110 (by decide) (fun c14 => ?_) (fun c14 => ?_)
      · rw [if_pos c14] at E
        cases E
        exact r_pick (by rfl : lpick [(0, .ref a0)] [] = _) (hx _ rfl)
      · rw [if_neg c14] at E
        exact r_pick (by rfl : lpick [(0, .ref a0)] [0] = _) (t_x9_parseHut_j113_89 X hl0 hr hnm hc hx E)
set_option maxHeartbeats 4000000 in
theorem t_x9_parseHut_l89_r {l : Launch} {G : GG} {M : MC} (X : CX M G cX9_parseHut 1 RX9 ⟨8, 0, 0, 245⟩) (hl0 : M.2.1 = l) (hr : (mM M).sig.returnType = none) (hnm : (mM M).name = yX9_parseHut.name) {Q : State → Prop} {kc ks : Nat} {a0 : Nat} : ∀ (n : Nat) (s0 : Unit) (g : AH) (t : (Unit)) (g1 : AH), loopX (x9_parseHut_l89 a0) n s0 g = some (t, g1) → WW M G 1 Q kc ks g1 120 [] [] → WW M G 1 Q kc ks g 89 [(0, .ref a0)] [] :=
  loop_cps (K := fun t g1 => WW M G 1 Q kc ks g1 120 [] []) (fun _ s0 g => WW M G 1 Q kc ks g 89 [(0, .ref a0)] []) (fun n s0 g st g1 E hc hx => t_x9_parseHut_l89 X hl0 hr hnm hc hx E)
set_option maxHeartbeats 4000000 in
set_option maxRecDepth 100000 in
theorem t_x9_parseHut_b {l : Launch} {G : GG} {M : MC} (X : CX M G cX9_parseHut 1 RX9 ⟨8, 0, 0, 245⟩) (hl0 : M.2.1 = l) (hr : (mM M).sig.returnType = none) (hnm : (mM M).name = yX9_parseHut.name) {p : Nat} {g : AH} {r : Unit} {g1 : AH} (E : x9_parseHut p g = some (r, g1)) : WW M G 1 (RQ M G none g1 0 0) 0 0 g 0 [(0, .ref p)] [] := by
  unfold x9_parseHut at E
  refine r_aload_n X 0 dX9_parseHut_0 rfl rfl ?_
  refine r_ldcS X dX9_parseHut_1 (List.mem_of_getElem? (i := 30) rfl) ?_
  obtain ⟨u4, e5, E⟩ := gb_some E
  obtain ⟨r1, g2, e3, E⟩ := cb_some E
  refine r_callV0 X hl0 (ci := 9) dX9_parseHut_3 y_X9_parseWord m_X9_212 rfl rfl e5 (t_x9_parseWord (l := l) (G := G) e3) rfl rfl (Nat.le_of_ble_eq_true rfl) (by decide) ?_
  refine r_aload_n X 0 dX9_parseHut_6 rfl rfl ?_
  obtain ⟨x6, e7, E⟩ := gb_some E
  refine r_getR X dX9_parseHut_7 f_X9_7 e7 ?_
  refine r_iconst X (v := 0) dX9_parseHut_10 (by decide) ?_
  refine r_aload_n X 0 dX9_parseHut_11 rfl rfl ?_
  refine r_iconst X (v := 0) dX9_parseHut_12 (by decide) ?_
  refine r_bipush X (v := 99) dX9_parseHut_13 (by decide) ?_
  obtain ⟨u11, e12, E⟩ := gb_some E
  obtain ⟨r8, g9, e10, E⟩ := cb_some E
  refine r_callV0 X hl0 (ci := 9) dX9_parseHut_15 y_X9_parseRange m_X9_207 rfl rfl e12 (t_x9_parseRange (l := l) (G := G) e10) rfl rfl (Nat.le_of_ble_eq_true rfl) (by decide) ?_
  obtain ⟨g13, e14, E⟩ := gb_some E
  refine r_iast X dX9_parseHut_18 e14 ?_
  refine r_aload_n X 0 dX9_parseHut_19 rfl rfl ?_
  obtain ⟨x15, e16, E⟩ := gb_some E
  refine r_getR X dX9_parseHut_20 f_X9_7 e16 ?_
  refine r_bipush X (v := 8) dX9_parseHut_23 (by decide) ?_
  refine r_aload_n X 0 dX9_parseHut_25 rfl rfl ?_
  obtain ⟨x17, e18, E⟩ := gb_some E
  refine r_getR X dX9_parseHut_26 f_X9_7 e18 ?_
  refine r_iconst X (v := 0) dX9_parseHut_29 (by decide) ?_
  obtain ⟨x19, e20, E⟩ := gb_some E
  refine r_iald X dX9_parseHut_30 e20 ?_
  obtain ⟨g21, e22, E⟩ := gb_some E
  refine r_iast X dX9_parseHut_31 e22 ?_
  refine r_aload_n X 0 dX9_parseHut_32 rfl rfl ?_
  obtain ⟨u26, e27, E⟩ := gb_some E
  obtain ⟨r23, g24, e25, E⟩ := cb_some E
  refine r_callV0 X hl0 (ci := 9) dX9_parseHut_33 y_X9_parseEnd m_X9_202 rfl rfl e27 (t_x9_parseEnd (l := l) (G := G) e25) rfl rfl (Nat.le_of_ble_eq_true rfl) (by decide) ?_
  refine r_aload_n X 0 dX9_parseHut_36 rfl rfl ?_
  refine r_ldcS X dX9_parseHut_37 (List.mem_of_getElem? (i := 31) rfl) ?_
  obtain ⟨u31, e32, E⟩ := gb_some E
  obtain ⟨r28, g29, e30, E⟩ := cb_some E
  refine r_callV0 X hl0 (ci := 9) dX9_parseHut_39 y_X9_parseWord m_X9_212 rfl rfl e32 (t_x9_parseWord (l := l) (G := G) e30) rfl rfl (Nat.le_of_ble_eq_true rfl) (by decide) ?_
  refine r_aload_n X 0 dX9_parseHut_42 rfl rfl ?_
  refine r_bipush X (v := 9) dX9_parseHut_43 (by decide) ?_
  refine r_bipush X (v := 13) dX9_parseHut_45 (by decide) ?_
  refine r_iconst X (v := 0) dX9_parseHut_47 (by decide) ?_
  refine r_iconst X (v := 5) dX9_parseHut_48 (by decide) ?_
  refine r_iconst X (v := 1) dX9_parseHut_49 (by decide) ?_
  obtain ⟨u36, e37, E⟩ := gb_some E
  obtain ⟨r33, g34, e35, E⟩ := cb_some E
  refine r_callV0 X hl0 (ci := 9) dX9_parseHut_50 y_X9_parseRow m_X9_218 rfl rfl e37 (t_x9_parseRow (l := l) (G := G) e35) rfl rfl (Nat.le_of_ble_eq_true rfl) (by decide) ?_
  refine r_aload_n X 0 dX9_parseHut_53 rfl rfl ?_
  refine r_ldcS X dX9_parseHut_54 (List.mem_of_getElem? (i := 32) rfl) ?_
  obtain ⟨u41, e42, E⟩ := gb_some E
  obtain ⟨r38, g39, e40, E⟩ := cb_some E
  refine r_callV0 X hl0 (ci := 9) dX9_parseHut_56 y_X9_parseWord m_X9_212 rfl rfl e42 (t_x9_parseWord (l := l) (G := G) e40) rfl rfl (Nat.le_of_ble_eq_true rfl) (by decide) ?_
  refine r_aload_n X 0 dX9_parseHut_59 rfl rfl ?_
  refine r_bipush X (v := 10) dX9_parseHut_60 (by decide) ?_
  refine r_bipush X (v := 25) dX9_parseHut_62 (by decide) ?_
  refine r_iconst X (v := 1) dX9_parseHut_64 (by decide) ?_
  refine r_bipush X (v := 9) dX9_parseHut_65 (by decide) ?_
  refine r_iconst X (v := 0) dX9_parseHut_67 (by decide) ?_
  obtain ⟨u46, e47, E⟩ := gb_some E
  obtain ⟨r43, g44, e45, E⟩ := cb_some E
  refine r_callV0 X hl0 (ci := 9) dX9_parseHut_68 y_X9_parseRow m_X9_218 rfl rfl e47 (t_x9_parseRow (l := l) (G := G) e45) rfl rfl (Nat.le_of_ble_eq_true rfl) (by decide) ?_
  refine r_aload_n X 0 dX9_parseHut_71 rfl rfl ?_
  refine r_ldcS X dX9_parseHut_72 (List.mem_of_getElem? (i := 33) rfl) ?_
  obtain ⟨u51, e52, E⟩ := gb_some E
  obtain ⟨r48, g49, e50, E⟩ := cb_some E
  refine r_callV0 X hl0 (ci := 9) dX9_parseHut_74 y_X9_parseWord m_X9_212 rfl rfl e52 (t_x9_parseWord (l := l) (G := G) e50) rfl rfl (Nat.le_of_ble_eq_true rfl) (by decide) ?_
  refine r_aload_n X 0 dX9_parseHut_77 rfl rfl ?_
  refine r_bipush X (v := 11) dX9_parseHut_78 (by decide) ?_
  refine r_bipush X (v := 37) dX9_parseHut_80 (by decide) ?_
  refine r_iconst X (v := 0) dX9_parseHut_82 (by decide) ?_
  refine r_bipush X (v := 20) dX9_parseHut_83 (by decide) ?_
  refine r_iconst X (v := 1) dX9_parseHut_85 (by decide) ?_
  obtain ⟨u56, e57, E⟩ := gb_some E
  obtain ⟨r53, g54, e55, E⟩ := cb_some E
  refine r_callV0 X hl0 (ci := 9) dX9_parseHut_86 y_X9_parseRow m_X9_218 rfl rfl e57 (t_x9_parseRow (l := l) (G := G) e55) rfl rfl (Nat.le_of_ble_eq_true rfl) (by decide) ?_
  obtain ⟨t58, g59, e60, E⟩ := cb_some E
  refine r_pick (by rfl : lpick [(0, .ref p)] [0] = _) (t_x9_parseHut_l89_r X hl0 hr hnm _ _ _ _ _ e60 ?_)
  cases E
  exact r_vret X hr dX9_parseHut_120 (by decide) (by decide)
theorem t_x9_parseHut {l : Launch} {G : GG} {p : Nat} {g : AH} {r : Unit} {g1 : AH} (E : x9_parseHut p g = some (r, g1)) : Ct l G yX9_parseHut cX9_parseHut 1 none ⟨8, 0, 0, 245⟩ [.ref p] g none g1 :=
  ct_of (L0 := [(0, .ref p)]) y_X9_parseHut rfl (Nat.le_of_ble_eq_true rfl) fun M hl0 X hr hnm => t_x9_parseHut_b X hl0 hr hnm E
set_option maxHeartbeats 4000000 in
set_option maxRecDepth 100000 in
theorem t_x9_loadSetup_l15 {l : Launch} {G : GG} {M : MC} (X : CX M G cX9_loadSetup 2 RX9 ⟨9, 0, 0, 265⟩) (hl0 : M.2.1 = l) (hr : (mM M).sig.returnType = (some .int)) (hnm : (mM M).name = yX9_loadSetup.name) {Q : State → Prop} {kc ks : Nat} {s9 : ((Int32) ⊕ (Unit))} {g1 : AH} {a0 : Nat} {s0 : Int32} (hc : ∀ s1, s9 = .inl s1 → WW M G 2 Q kc ks g1 15 [(0, .ref a0), (1, .int s1)] []) (hx : ∀ t, s9 = .inr t → WW M G 2 Q kc ks g1 35 [(0, .ref a0)] []) {g : AH} (E : x9_loadSetup_l15 a0 s0 g = some (s9, g1)) : WW M G 2 Q kc ks g 15 [(0, .ref a0), (1, .int s0)] [] := by
  unfold x9_loadSetup_l15 at E
  refine r_iload_n X 1 dX9_loadSetup_15 rfl rfl ?_
  refine r_sipush X (v := 149) dX9_loadSetup_16 (by decide) ?_
  refine r_icmp_ge X 35 dX9_loadSetup_19 (by decide) (fun c1 => ?_) (fun c1 => ?_)
  · rw [if_pos c1] at E
    cases E
    exact r_pick (by rfl : lpick [(0, .ref a0), (1, .int s0)] [0] = _) (hx _ rfl)
  · rw [if_neg c1] at E
    refine r_aload_n X 0 dX9_loadSetup_22 rfl rfl ?_
    obtain ⟨x2, e3, E⟩ := gb_some E
    refine r_getR X dX9_loadSetup_23 f_X9_7 e3 ?_
    refine r_iload_n X 1 dX9_loadSetup_26 rfl rfl ?_
    refine r_iconst X (v := 0) dX9_loadSetup_27 (by decide) ?_
    obtain ⟨g4, e5, E⟩ := gb_some E
    refine r_iast X dX9_loadSetup_28 e5 ?_
    refine r_iinc X (v := (s0 + 1)) (L1 := [(1, .int (s0 + 1)), (0, .ref a0)]) dX9_loadSetup_29 rfl rfl (by decide) rfl ?_
    refine r_goto X 15 dX9_loadSetup_32 (by decide) ?_
    cases E
    exact r_pick (by rfl : lpick [(1, .int (s0 + 1)), (0, .ref a0)] [1, 0] = _) (hc _ rfl)
set_option maxHeartbeats 4000000 in
theorem t_x9_loadSetup_l15_r {l : Launch} {G : GG} {M : MC} (X : CX M G cX9_loadSetup 2 RX9 ⟨9, 0, 0, 265⟩) (hl0 : M.2.1 = l) (hr : (mM M).sig.returnType = (some .int)) (hnm : (mM M).name = yX9_loadSetup.name) {Q : State → Prop} {kc ks : Nat} {a0 : Nat} : ∀ (n : Nat) (s0 : Int32) (g : AH) (t : (Unit)) (g1 : AH), loopX (x9_loadSetup_l15 a0) n s0 g = some (t, g1) → WW M G 2 Q kc ks g1 35 [(0, .ref a0)] [] → WW M G 2 Q kc ks g 15 [(0, .ref a0), (1, .int s0)] [] :=
  loop_cps (K := fun t g1 => WW M G 2 Q kc ks g1 35 [(0, .ref a0)] []) (fun _ s0 g => WW M G 2 Q kc ks g 15 [(0, .ref a0), (1, .int s0)] []) (fun n s0 g st g1 E hc hx => t_x9_loadSetup_l15 X hl0 hr hnm hc hx E)
set_option maxHeartbeats 4000000 in
set_option maxRecDepth 100000 in
theorem t_x9_loadSetup_b {l : Launch} {G : GG} {M : MC} (X : CX M G cX9_loadSetup 2 RX9 ⟨9, 0, 0, 265⟩) (hl0 : M.2.1 = l) (hr : (mM M).sig.returnType = (some .int)) (hnm : (mM M).name = yX9_loadSetup.name) {p : Nat} {g : AH} {r : Int32} {g1 : AH} (E : x9_loadSetup p g = some (r, g1)) : WW M G 2 (RQ M G (some (.int r)) g1 0 0) 0 0 g 0 [(0, .ref p)] [] := by
  unfold x9_loadSetup at E
  refine r_aload_n X 0 dX9_loadSetup_0 rfl rfl ?_
  refine r_iconst X (v := 0) dX9_loadSetup_1 (by decide) ?_
  obtain ⟨g1, e2, E⟩ := gb_some E
  refine r_put X dX9_loadSetup_2 f_X9_57 rfl rfl e2 ?_
  refine r_aload_n X 0 dX9_loadSetup_5 rfl rfl ?_
  obtain ⟨u6, e7, E⟩ := gb_some E
  obtain ⟨r3, g4, e5, E⟩ := cb_some E
  refine r_callV0 X hl0 (ci := 9) dX9_loadSetup_6 y_X9_goAside m_X9_229 rfl rfl e7 (t_x9_goAside (l := l) (G := G) e5) rfl rfl (Nat.le_of_ble_eq_true rfl) (by decide) ?_
  refine r_aload_n X 0 dX9_loadSetup_9 rfl rfl ?_
  obtain ⟨u11, e12, E⟩ := gb_some E
  obtain ⟨r8, g9, e10, E⟩ := cb_some E
  refine r_callV0 X hl0 (ci := 9) dX9_loadSetup_10 y_X9_startText m_X9_232 rfl rfl e12 (t_x9_startText (l := l) (G := G) e10) rfl rfl (Nat.le_of_ble_eq_true rfl) (by decide) ?_
  refine r_iconst X (v := 0) dX9_loadSetup_13 (by decide) ?_
  refine r_istore_n X 1 (L1 := [(1, .int 0), (0, .ref p)]) dX9_loadSetup_14 rfl (by decide) rfl ?_
  obtain ⟨t13, g14, e15, E⟩ := cb_some E
  refine r_pick (by rfl : lpick [(1, .int 0), (0, .ref p)] [1, 0] = _) (t_x9_loadSetup_l15_r X hl0 hr hnm _ _ _ _ _ e15 ?_)
  refine r_aload_n X 0 dX9_loadSetup_35 rfl rfl ?_
  obtain ⟨u19, e20, E⟩ := gb_some E
  obtain ⟨r16, g17, e18, E⟩ := cb_some E
  refine r_callV0 X hl0 (ci := 9) dX9_loadSetup_36 y_X9_parseHut m_X9_235 rfl rfl e20 (t_x9_parseHut (l := l) (G := G) e18) rfl rfl (Nat.le_of_ble_eq_true rfl) (by decide) ?_
  refine r_aload_n X 0 dX9_loadSetup_39 rfl rfl ?_
  refine r_iconst X (v := 0) dX9_loadSetup_40 (by decide) ?_
  obtain ⟨g21, e22, E⟩ := gb_some E
  refine r_put X dX9_loadSetup_41 f_X9_138 rfl rfl e22 ?_
  refine r_aload_n X 0 dX9_loadSetup_44 rfl rfl ?_
  obtain ⟨u26, e27, E⟩ := gb_some E
  obtain ⟨r23, g24, e25, E⟩ := cb_some E
  refine r_callV0 X hl0 (ci := 9) dX9_loadSetup_45 y_X9_isFine m_X9_147 rfl rfl e27 (t_x9_isFine (l := l) (G := G) e25) rfl rfl (Nat.le_of_ble_eq_true rfl) (by decide) ?_
  refine r_if_ne X 57 dX9_loadSetup_48 (by decide) (fun c28 => ?_) (fun c28 => ?_)
  · rw [if_neg c28] at E
    refine r_aload_n X 0 dX9_loadSetup_57 rfl rfl ?_
    refine r_iconst X (v := 0) dX9_loadSetup_58 (by decide) ?_
    obtain ⟨g29, e30, E⟩ := gb_some E
    refine r_put X dX9_loadSetup_59 f_X9_241 rfl rfl e30 ?_
    refine r_aload_n X 0 dX9_loadSetup_62 rfl rfl ?_
    obtain ⟨x31, e32, E⟩ := gb_some E
    refine r_getR X dX9_loadSetup_63 f_X9_7 e32 ?_
    refine r_bipush X (v := 12) dX9_loadSetup_66 (by decide) ?_
    obtain ⟨x33, e34, E⟩ := gb_some E
    refine r_iald X dX9_loadSetup_68 e34 ?_
    cases E
    exact r_iret X hr dX9_loadSetup_69 (by decide) (by decide)
  · rw [if_pos c28] at E
    refine r_aload_n X 0 dX9_loadSetup_51 rfl rfl ?_
    refine r_iconst X (v := (-1)) dX9_loadSetup_52 (by decide) ?_
    obtain ⟨u38, e39, E⟩ := gb_some E
    obtain ⟨r35, g36, e37, E⟩ := cb_some E
    refine r_callV0 X hl0 (ci := 9) dX9_loadSetup_53 y_X9_comeBack m_X9_238 rfl rfl e39 (t_x9_comeBack (l := l) (G := G) e37) rfl rfl (Nat.le_of_ble_eq_true rfl) (by decide) ?_
    cases E
    exact r_iret X hr dX9_loadSetup_56 (by decide) (by decide)
theorem t_x9_loadSetup {l : Launch} {G : GG} {p : Nat} {g : AH} {r : Int32} {g1 : AH} (E : x9_loadSetup p g = some (r, g1)) : Ct l G yX9_loadSetup cX9_loadSetup 2 (some .int) ⟨9, 0, 0, 265⟩ [.ref p] g (some (.int r)) g1 :=
  ct_of (L0 := [(0, .ref p)]) y_X9_loadSetup rfl (Nat.le_of_ble_eq_true rfl) fun M hl0 X hr hnm => t_x9_loadSetup_b X hl0 hr hnm E
set_option maxHeartbeats 4000000 in
set_option maxRecDepth 100000 in
theorem t_x9_rareCommandHere_b {l : Launch} {G : GG} {M : MC} (X : CX M G cX9_rareCommandHere 1 RX9 ⟨7, 0, 0, 222⟩) (hl0 : M.2.1 = l) (hr : (mM M).sig.returnType = (some .int)) (hnm : (mM M).name = yX9_rareCommandHere.name) {p : Nat} {g : AH} {r : Int32} {g1 : AH} (E : x9_rareCommandHere p g = some (r, g1)) : WW M G 1 (RQ M G (some (.int r)) g1 0 0) 0 0 g 0 [(0, .ref p)] [] := by
  unfold x9_rareCommandHere at E
  refine r_aload_n X 0 dX9_rareCommandHere_0 rfl rfl ?_
  refine r_ldcSw X dX9_rareCommandHere_1 (List.mem_of_getElem? (i := 39) rfl) ?_
  obtain ⟨u4, e5, E⟩ := gb_some E
  obtain ⟨r1, g2, e3, E⟩ := cb_some E
  refine r_callV0 X hl0 (ci := 9) dX9_rareCommandHere_4 y_X9_isWord m_X9_195 rfl rfl e5 (t_x9_isWord (l := l) (G := G) e3) rfl rfl (Nat.le_of_ble_eq_true rfl) (by decide) ?_
  refine r_if_eq X 12 dX9_rareCommandHere_7 (by decide) (fun c6 => ?_) (fun c6 => ?_)
  · rw [if_pos c6] at E
    refine r_aload_n X 0 dX9_rareCommandHere_12 rfl rfl ?_
    refine r_ldcSw X dX9_rareCommandHere_13 (List.mem_of_getElem? (i := 40) rfl) ?_
    obtain ⟨u10, e11, E⟩ := gb_some E
    obtain ⟨r7, g8, e9, E⟩ := cb_some E
    refine r_callV0 X hl0 (ci := 9) dX9_rareCommandHere_16 y_X9_isWord m_X9_195 rfl rfl e11 (t_x9_isWord (l := l) (G := G) e9) rfl rfl (Nat.le_of_ble_eq_true rfl) (by decide) ?_
    refine r_if_eq X 25 dX9_rareCommandHere_19 (by decide) (fun c12 => ?_) (fun c12 => ?_)
    · rw [if_pos c12] at E
      refine r_aload_n X 0 dX9_rareCommandHere_25 rfl rfl ?_
      refine r_ldcSw X dX9_rareCommandHere_26 (List.mem_of_getElem? (i := 41) rfl) ?_
      obtain ⟨u16, e17, E⟩ := gb_some E
      obtain ⟨r13, g14, e15, E⟩ := cb_some E
      refine r_callV0 X hl0 (ci := 9) dX9_rareCommandHere_29 y_X9_isWord m_X9_195 rfl rfl e17 (t_x9_isWord (l := l) (G := G) e15) rfl rfl (Nat.le_of_ble_eq_true rfl) (by decide) ?_
      refine r_if_eq X 38 dX9_rareCommandHere_32 (by decide) (fun c18 => ?_) (fun c18 => ?_)
      · rw [if_pos c18] at E
        refine r_aload_n X 0 dX9_rareCommandHere_38 rfl rfl ?_
        refine r_ldcSw X dX9_rareCommandHere_39 (List.mem_of_getElem? (i := 42) rfl) ?_
        obtain ⟨u22, e23, E⟩ := gb_some E
        obtain ⟨r19, g20, e21, E⟩ := cb_some E
        refine r_callV0 X hl0 (ci := 9) dX9_rareCommandHere_42 y_X9_isWord m_X9_195 rfl rfl e23 (t_x9_isWord (l := l) (G := G) e21) rfl rfl (Nat.le_of_ble_eq_true rfl) (by decide) ?_
        refine r_if_eq X 53 dX9_rareCommandHere_45 (by decide) (fun c24 => ?_) (fun c24 => ?_)
        · rw [if_pos c24] at E
          refine r_iconst X (v := (-1)) dX9_rareCommandHere_53 (by decide) ?_
          cases E
          exact r_iret X hr dX9_rareCommandHere_54 (by decide) (by decide)
        · rw [if_neg c24] at E
          refine r_bipush X (v := 8) dX9_rareCommandHere_48 (by decide) ?_
          refine r_goto X 54 dX9_rareCommandHere_50 (by decide) ?_
          cases E
          exact r_iret X hr dX9_rareCommandHere_54 (by decide) (by decide)
      · rw [if_neg c18] at E
        refine r_bipush X (v := 7) dX9_rareCommandHere_35 (by decide) ?_
        cases E
        exact r_iret X hr dX9_rareCommandHere_37 (by decide) (by decide)
    · rw [if_neg c12] at E
      refine r_bipush X (v := 6) dX9_rareCommandHere_22 (by decide) ?_
      cases E
      exact r_iret X hr dX9_rareCommandHere_24 (by decide) (by decide)
  · rw [if_neg c6] at E
    refine r_iconst X (v := 5) dX9_rareCommandHere_10 (by decide) ?_
    cases E
    exact r_iret X hr dX9_rareCommandHere_11 (by decide) (by decide)
theorem t_x9_rareCommandHere {l : Launch} {G : GG} {p : Nat} {g : AH} {r : Int32} {g1 : AH} (E : x9_rareCommandHere p g = some (r, g1)) : Ct l G yX9_rareCommandHere cX9_rareCommandHere 1 (some .int) ⟨7, 0, 0, 222⟩ [.ref p] g (some (.int r)) g1 :=
  ct_of (L0 := [(0, .ref p)]) y_X9_rareCommandHere rfl (Nat.le_of_ble_eq_true rfl) fun M hl0 X hr hnm => t_x9_rareCommandHere_b X hl0 hr hnm E
set_option maxHeartbeats 4000000 in
set_option maxRecDepth 100000 in
theorem t_x9_commandHere_b {l : Launch} {G : GG} {M : MC} (X : CX M G cX9_commandHere 1 RX9 ⟨8, 0, 0, 242⟩) (hl0 : M.2.1 = l) (hr : (mM M).sig.returnType = (some .int)) (hnm : (mM M).name = yX9_commandHere.name) {p : Nat} {g : AH} {r : Int32} {g1 : AH} (E : x9_commandHere p g = some (r, g1)) : WW M G 1 (RQ M G (some (.int r)) g1 0 0) 0 0 g 0 [(0, .ref p)] [] := by
  unfold x9_commandHere at E
  refine r_aload_n X 0 dX9_commandHere_0 rfl rfl ?_
  refine r_ldcS X dX9_commandHere_1 (List.mem_of_getElem? (i := 34) rfl) ?_
  obtain ⟨u4, e5, E⟩ := gb_some E
  obtain ⟨r1, g2, e3, E⟩ := cb_some E
  refine r_callV0 X hl0 (ci := 9) dX9_commandHere_3 y_X9_isWord m_X9_195 rfl rfl e5 (t_x9_isWord (l := l) (G := G) e3) rfl rfl (Nat.le_of_ble_eq_true rfl) (by decide) ?_
  refine r_if_eq X 11 dX9_commandHere_6 (by decide) (fun c6 => ?_) (fun c6 => ?_)
  · rw [if_pos c6] at E
    refine r_aload_n X 0 dX9_commandHere_11 rfl rfl ?_
    refine r_ldcS X dX9_commandHere_12 (List.mem_of_getElem? (i := 35) rfl) ?_
    obtain ⟨u10, e11, E⟩ := gb_some E
    obtain ⟨r7, g8, e9, E⟩ := cb_some E
    refine r_callV0 X hl0 (ci := 9) dX9_commandHere_14 y_X9_isWord m_X9_195 rfl rfl e11 (t_x9_isWord (l := l) (G := G) e9) rfl rfl (Nat.le_of_ble_eq_true rfl) (by decide) ?_
    refine r_if_eq X 22 dX9_commandHere_17 (by decide) (fun c12 => ?_) (fun c12 => ?_)
    · rw [if_pos c12] at E
      refine r_aload_n X 0 dX9_commandHere_22 rfl rfl ?_
      refine r_ldcS X dX9_commandHere_23 (List.mem_of_getElem? (i := 36) rfl) ?_
      obtain ⟨u16, e17, E⟩ := gb_some E
      obtain ⟨r13, g14, e15, E⟩ := cb_some E
      refine r_callV0 X hl0 (ci := 9) dX9_commandHere_25 y_X9_isWord m_X9_195 rfl rfl e17 (t_x9_isWord (l := l) (G := G) e15) rfl rfl (Nat.le_of_ble_eq_true rfl) (by decide) ?_
      refine r_if_eq X 33 dX9_commandHere_28 (by decide) (fun c18 => ?_) (fun c18 => ?_)
      · rw [if_pos c18] at E
        refine r_aload_n X 0 dX9_commandHere_33 rfl rfl ?_
        refine r_ldcS X dX9_commandHere_34 (List.mem_of_getElem? (i := 37) rfl) ?_
        obtain ⟨u22, e23, E⟩ := gb_some E
        obtain ⟨r19, g20, e21, E⟩ := cb_some E
        refine r_callV0 X hl0 (ci := 9) dX9_commandHere_36 y_X9_isWord m_X9_195 rfl rfl e23 (t_x9_isWord (l := l) (G := G) e21) rfl rfl (Nat.le_of_ble_eq_true rfl) (by decide) ?_
        refine r_if_eq X 44 dX9_commandHere_39 (by decide) (fun c24 => ?_) (fun c24 => ?_)
        · rw [if_pos c24] at E
          refine r_aload_n X 0 dX9_commandHere_44 rfl rfl ?_
          refine r_ldcS X dX9_commandHere_45 (List.mem_of_getElem? (i := 38) rfl) ?_
          obtain ⟨u28, e29, E⟩ := gb_some E
          obtain ⟨r25, g26, e27, E⟩ := cb_some E
          refine r_callV0 X hl0 (ci := 9) dX9_commandHere_47 y_X9_isWord m_X9_195 rfl rfl e29 (t_x9_isWord (l := l) (G := G) e27) rfl rfl (Nat.le_of_ble_eq_true rfl) (by decide) ?_
          refine r_if_eq X 55 dX9_commandHere_50 (by decide) (fun c30 => ?_) (fun c30 => ?_)
          · rw [if_pos c30] at E
            refine r_aload_n X 0 dX9_commandHere_55 rfl rfl ?_
            obtain ⟨u34, e35, E⟩ := gb_some E
            obtain ⟨r31, g32, e33, E⟩ := cb_some E
            refine r_callV0 X hl0 (ci := 9) dX9_commandHere_56 y_X9_rareCommandHere m_X9_254 rfl rfl e35 (t_x9_rareCommandHere (l := l) (G := G) e33) rfl rfl (Nat.le_of_ble_eq_true rfl) (by decide) ?_
            cases E
            exact r_iret X hr dX9_commandHere_59 (by decide) (by decide)
          · rw [if_neg c30] at E
            refine r_iconst X (v := 4) dX9_commandHere_53 (by decide) ?_
            cases E
            exact r_iret X hr dX9_commandHere_54 (by decide) (by decide)
        · rw [if_neg c24] at E
          refine r_iconst X (v := 3) dX9_commandHere_42 (by decide) ?_
          cases E
          exact r_iret X hr dX9_commandHere_43 (by decide) (by decide)
      · rw [if_neg c18] at E
        refine r_iconst X (v := 2) dX9_commandHere_31 (by decide) ?_
        cases E
        exact r_iret X hr dX9_commandHere_32 (by decide) (by decide)
    · rw [if_neg c12] at E
      refine r_iconst X (v := 1) dX9_commandHere_20 (by decide) ?_
      cases E
      exact r_iret X hr dX9_commandHere_21 (by decide) (by decide)
  · rw [if_neg c6] at E
    refine r_iconst X (v := 0) dX9_commandHere_9 (by decide) ?_
    cases E
    exact r_iret X hr dX9_commandHere_10 (by decide) (by decide)
theorem t_x9_commandHere {l : Launch} {G : GG} {p : Nat} {g : AH} {r : Int32} {g1 : AH} (E : x9_commandHere p g = some (r, g1)) : Ct l G yX9_commandHere cX9_commandHere 1 (some .int) ⟨8, 0, 0, 242⟩ [.ref p] g (some (.int r)) g1 :=
  ct_of (L0 := [(0, .ref p)]) y_X9_commandHere rfl (Nat.le_of_ble_eq_true rfl) fun M hl0 X hr hnm => t_x9_commandHere_b X hl0 hr hnm E
set_option maxHeartbeats 4000000 in
set_option maxRecDepth 100000 in
theorem t_x9_parseFirst_b {l : Launch} {G : GG} {M : MC} (X : CX M G cX9_parseFirst 2 RX9 ⟨5, 0, 0, 194⟩) (hl0 : M.2.1 = l) (hr : (mM M).sig.returnType = (some .int)) (hnm : (mM M).name = yX9_parseFirst.name) {p : Nat} {b0 : Int32} {g : AH} {r : Int32} {g1 : AH} (E : x9_parseFirst p b0 g = some (r, g1)) : WW M G 2 (RQ M G (some (.int r)) g1 0 0) 0 0 g 0 [(0, .ref p), (1, .int b0)] [] := by
  unfold x9_parseFirst at E
  refine r_iload_n X 1 dX9_parseFirst_0 rfl rfl ?_
  by_cases c1 : b0 = 5
  · rw [if_pos c1] at E
    refine r_tswI X 5 32 dX9_parseFirst_1 c1 (by decide) (by decide) rfl (by decide) ?_
    refine r_aload_n X 0 dX9_parseFirst_32 rfl rfl ?_
    refine r_iconst X (v := 0) dX9_parseFirst_33 (by decide) ?_
    refine r_iconst X (v := 3) dX9_parseFirst_34 (by decide) ?_
    obtain ⟨u5, e6, E⟩ := gb_some E
    obtain ⟨r2, g3, e4, E⟩ := cb_some E
    refine r_callV0 X hl0 (ci := 9) dX9_parseFirst_35 y_X9_parseNumber m_X9_192 rfl rfl e6 (t_x9_parseNumber (l := l) (G := G) e4) rfl rfl (Nat.le_of_ble_eq_true rfl) (by decide) ?_
    cases E
    exact r_iret X hr dX9_parseFirst_38 (by decide) (by decide)
  rw [if_neg c1] at E
  by_cases c7 : b0 = 6
  · rw [if_pos c7] at E
    refine r_tswI X 6 39 dX9_parseFirst_1 c7 (by decide) (by decide) rfl (by decide) ?_
    refine r_aload_n X 0 dX9_parseFirst_39 rfl rfl ?_
    refine r_iconst X (v := 1) dX9_parseFirst_40 (by decide) ?_
    refine r_bipush X (v := 50) dX9_parseFirst_41 (by decide) ?_
    obtain ⟨u11, e12, E⟩ := gb_some E
    obtain ⟨r8, g9, e10, E⟩ := cb_some E
    refine r_callV0 X hl0 (ci := 9) dX9_parseFirst_43 y_X9_parseNumber m_X9_192 rfl rfl e12 (t_x9_parseNumber (l := l) (G := G) e10) rfl rfl (Nat.le_of_ble_eq_true rfl) (by decide) ?_
    cases E
    exact r_iret X hr dX9_parseFirst_46 (by decide) (by decide)
  rw [if_neg c7] at E
  by_cases c13 : b0 = 7
  · rw [if_pos c13] at E
    refine r_tswI X 7 55 dX9_parseFirst_1 c13 (by decide) (by decide) rfl (by decide) ?_
    refine r_aload_n X 0 dX9_parseFirst_55 rfl rfl ?_
    refine r_iconst X (v := 0) dX9_parseFirst_56 (by decide) ?_
    refine r_bipush X (v := 9) dX9_parseFirst_57 (by decide) ?_
    obtain ⟨u17, e18, E⟩ := gb_some E
    obtain ⟨r14, g15, e16, E⟩ := cb_some E
    refine r_callV0 X hl0 (ci := 9) dX9_parseFirst_59 y_X9_parseNumber m_X9_192 rfl rfl e18 (t_x9_parseNumber (l := l) (G := G) e16) rfl rfl (Nat.le_of_ble_eq_true rfl) (by decide) ?_
    cases E
    exact r_iret X hr dX9_parseFirst_62 (by decide) (by decide)
  rw [if_neg c13] at E
  by_cases c19 : b0 = 8
  · rw [if_pos c19] at E
    refine r_tswI X 8 47 dX9_parseFirst_1 c19 (by decide) (by decide) rfl (by decide) ?_
    refine r_aload_n X 0 dX9_parseFirst_47 rfl rfl ?_
    refine r_iconst X (v := 1) dX9_parseFirst_48 (by decide) ?_
    refine r_bipush X (v := 48) dX9_parseFirst_49 (by decide) ?_
    obtain ⟨u23, e24, E⟩ := gb_some E
    obtain ⟨r20, g21, e22, E⟩ := cb_some E
    refine r_callV0 X hl0 (ci := 9) dX9_parseFirst_51 y_X9_parseNumber m_X9_192 rfl rfl e24 (t_x9_parseNumber (l := l) (G := G) e22) rfl rfl (Nat.le_of_ble_eq_true rfl) (by decide) ?_
    cases E
    exact r_iret X hr dX9_parseFirst_54 (by decide) (by decide)
  rw [if_neg c19] at E
  refine r_tswD X 55 dX9_parseFirst_1 (tsw_out (fun k h1 h2 => by
    rcases (by omega : k = 5 ∨ k = 6 ∨ k = 7 ∨ k = 8) with rfl | rfl | rfl | rfl
    · exact c1
    · exact c7
    · exact c13
    · exact c19
    )) (by decide) ?_
  refine r_aload_n X 0 dX9_parseFirst_55 rfl rfl ?_
  refine r_iconst X (v := 0) dX9_parseFirst_56 (by decide) ?_
  refine r_bipush X (v := 9) dX9_parseFirst_57 (by decide) ?_
  obtain ⟨u28, e29, E⟩ := gb_some E
  obtain ⟨r25, g26, e27, E⟩ := cb_some E
  refine r_callV0 X hl0 (ci := 9) dX9_parseFirst_59 y_X9_parseNumber m_X9_192 rfl rfl e29 (t_x9_parseNumber (l := l) (G := G) e27) rfl rfl (Nat.le_of_ble_eq_true rfl) (by decide) ?_
  cases E
  exact r_iret X hr dX9_parseFirst_62 (by decide) (by decide)
theorem t_x9_parseFirst {l : Launch} {G : GG} {p : Nat} {b0 : Int32} {g : AH} {r : Int32} {g1 : AH} (E : x9_parseFirst p b0 g = some (r, g1)) : Ct l G yX9_parseFirst cX9_parseFirst 2 (some .int) ⟨5, 0, 0, 194⟩ [.ref p, .int b0] g (some (.int r)) g1 :=
  ct_of (L0 := [(0, .ref p), (1, .int b0)]) y_X9_parseFirst rfl (Nat.le_of_ble_eq_true rfl) fun M hl0 X hr hnm => t_x9_parseFirst_b X hl0 hr hnm E
set_option maxHeartbeats 4000000 in
set_option maxRecDepth 100000 in
theorem t_x9_parseSecond_b {l : Launch} {G : GG} {M : MC} (X : CX M G cX9_parseSecond 2 RX9 ⟨6, 0, 0, 216⟩) (hl0 : M.2.1 = l) (hr : (mM M).sig.returnType = (some .int)) (hnm : (mM M).name = yX9_parseSecond.name) {p : Nat} {b0 : Int32} {g : AH} {r : Int32} {g1 : AH} (E : x9_parseSecond p b0 g = some (r, g1)) : WW M G 2 (RQ M G (some (.int r)) g1 0 0) 0 0 g 0 [(0, .ref p), (1, .int b0)] [] := by
  unfold x9_parseSecond at E
  refine r_iload_n X 1 dX9_parseSecond_0 rfl rfl ?_
  by_cases c1 : b0 = 0
  · rw [if_pos c1] at E
    refine r_tswI X 0 48 dX9_parseSecond_1 c1 (by decide) (by decide) rfl (by decide) ?_
    refine r_aload_n X 0 dX9_parseSecond_48 rfl rfl ?_
    refine r_iconst X (v := 0) dX9_parseSecond_49 (by decide) ?_
    refine r_bipush X (v := 11) dX9_parseSecond_50 (by decide) ?_
    obtain ⟨u5, e6, E⟩ := gb_some E
    obtain ⟨r2, g3, e4, E⟩ := cb_some E
    refine r_callV0 X hl0 (ci := 9) dX9_parseSecond_52 y_X9_parseRange m_X9_207 rfl rfl e6 (t_x9_parseRange (l := l) (G := G) e4) rfl rfl (Nat.le_of_ble_eq_true rfl) (by decide) ?_
    cases E
    exact r_iret X hr dX9_parseSecond_55 (by decide) (by decide)
  rw [if_neg c1] at E
  by_cases c7 : b0 = 1
  · rw [if_pos c7] at E
    refine r_tswI X 1 72 dX9_parseSecond_1 c7 (by decide) (by decide) rfl (by decide) ?_
    refine r_iconst X (v := 0) dX9_parseSecond_72 (by decide) ?_
    cases E
    exact r_iret X hr dX9_parseSecond_73 (by decide) (by decide)
  rw [if_neg c7] at E
  by_cases c8 : b0 = 2
  · rw [if_pos c8] at E
    refine r_tswI X 2 56 dX9_parseSecond_1 c8 (by decide) (by decide) rfl (by decide) ?_
    refine r_aload_n X 0 dX9_parseSecond_56 rfl rfl ?_
    refine r_iconst X (v := 0) dX9_parseSecond_57 (by decide) ?_
    refine r_bipush X (v := 9) dX9_parseSecond_58 (by decide) ?_
    obtain ⟨u12, e13, E⟩ := gb_some E
    obtain ⟨r9, g10, e11, E⟩ := cb_some E
    refine r_callV0 X hl0 (ci := 9) dX9_parseSecond_60 y_X9_parseRange m_X9_207 rfl rfl e13 (t_x9_parseRange (l := l) (G := G) e11) rfl rfl (Nat.le_of_ble_eq_true rfl) (by decide) ?_
    cases E
    exact r_iret X hr dX9_parseSecond_63 (by decide) (by decide)
  rw [if_neg c8] at E
  by_cases c14 : b0 = 3
  · rw [if_pos c14] at E
    refine r_tswI X 3 48 dX9_parseSecond_1 c14 (by decide) (by decide) rfl (by decide) ?_
    refine r_aload_n X 0 dX9_parseSecond_48 rfl rfl ?_
    refine r_iconst X (v := 0) dX9_parseSecond_49 (by decide) ?_
    refine r_bipush X (v := 11) dX9_parseSecond_50 (by decide) ?_
    obtain ⟨u18, e19, E⟩ := gb_some E
    obtain ⟨r15, g16, e17, E⟩ := cb_some E
    refine r_callV0 X hl0 (ci := 9) dX9_parseSecond_52 y_X9_parseRange m_X9_207 rfl rfl e19 (t_x9_parseRange (l := l) (G := G) e17) rfl rfl (Nat.le_of_ble_eq_true rfl) (by decide) ?_
    cases E
    exact r_iret X hr dX9_parseSecond_55 (by decide) (by decide)
  rw [if_neg c14] at E
  by_cases c20 : b0 = 4
  · rw [if_pos c20] at E
    refine r_tswI X 4 72 dX9_parseSecond_1 c20 (by decide) (by decide) rfl (by decide) ?_
    refine r_iconst X (v := 0) dX9_parseSecond_72 (by decide) ?_
    cases E
    exact r_iret X hr dX9_parseSecond_73 (by decide) (by decide)
  rw [if_neg c20] at E
  by_cases c21 : b0 = 5
  · rw [if_pos c21] at E
    refine r_tswI X 5 72 dX9_parseSecond_1 c21 (by decide) (by decide) rfl (by decide) ?_
    refine r_iconst X (v := 0) dX9_parseSecond_72 (by decide) ?_
    cases E
    exact r_iret X hr dX9_parseSecond_73 (by decide) (by decide)
  rw [if_neg c21] at E
  by_cases c22 : b0 = 6
  · rw [if_pos c22] at E
    refine r_tswI X 6 72 dX9_parseSecond_1 c22 (by decide) (by decide) rfl (by decide) ?_
    refine r_iconst X (v := 0) dX9_parseSecond_72 (by decide) ?_
    cases E
    exact r_iret X hr dX9_parseSecond_73 (by decide) (by decide)
  rw [if_neg c22] at E
  by_cases c23 : b0 = 7
  · rw [if_pos c23] at E
    refine r_tswI X 7 64 dX9_parseSecond_1 c23 (by decide) (by decide) rfl (by decide) ?_
    refine r_aload_n X 0 dX9_parseSecond_64 rfl rfl ?_
    refine r_iconst X (v := 1) dX9_parseSecond_65 (by decide) ?_
    refine r_bipush X (v := 99) dX9_parseSecond_66 (by decide) ?_
    obtain ⟨u27, e28, E⟩ := gb_some E
    obtain ⟨r24, g25, e26, E⟩ := cb_some E
    refine r_callV0 X hl0 (ci := 9) dX9_parseSecond_68 y_X9_parseRange m_X9_207 rfl rfl e28 (t_x9_parseRange (l := l) (G := G) e26) rfl rfl (Nat.le_of_ble_eq_true rfl) (by decide) ?_
    cases E
    exact r_iret X hr dX9_parseSecond_71 (by decide) (by decide)
  rw [if_neg c23] at E
  refine r_tswD X 72 dX9_parseSecond_1 (tsw_out (fun k h1 h2 => by
    rcases (by omega : k = 0 ∨ k = 1 ∨ k = 2 ∨ k = 3 ∨ k = 4 ∨ k = 5 ∨ k = 6 ∨ k = 7) with rfl | rfl | rfl | rfl | rfl | rfl | rfl | rfl
    · exact c1
    · exact c7
    · exact c8
    · exact c14
    · exact c20
    · exact c21
    · exact c22
    · exact c23
    )) (by decide) ?_
  refine r_iconst X (v := 0) dX9_parseSecond_72 (by decide) ?_
  cases E
  exact r_iret X hr dX9_parseSecond_73 (by decide) (by decide)
theorem t_x9_parseSecond {l : Launch} {G : GG} {p : Nat} {b0 : Int32} {g : AH} {r : Int32} {g1 : AH} (E : x9_parseSecond p b0 g = some (r, g1)) : Ct l G yX9_parseSecond cX9_parseSecond 2 (some .int) ⟨6, 0, 0, 216⟩ [.ref p, .int b0] g (some (.int r)) g1 :=
  ct_of (L0 := [(0, .ref p), (1, .int b0)]) y_X9_parseSecond rfl (Nat.le_of_ble_eq_true rfl) fun M hl0 X hr hnm => t_x9_parseSecond_b X hl0 hr hnm E
set_option maxHeartbeats 4000000 in
set_option maxRecDepth 100000 in
theorem t_x9_parseCommand_j76 {l : Launch} {G : GG} {M : MC} (X : CX M G cX9_parseCommand 5 RX9 ⟨9, 0, 0, 262⟩) (hl0 : M.2.1 = l) (hr : (mM M).sig.returnType = none) (hnm : (mM M).name = yX9_parseCommand.name) {a0 : Nat} {a1 : Int32} {a2 : Int32} {s0 : Int32} {g : AH} {r : Unit} {g1 : AH} (E : x9_parseCommand_j76 a0 a1 a2 s0 g = some (r, g1)) : WW M G 5 (RQ M G none g1 0 0) 0 0 g 76 [(0, .ref a0), (1, .int a1), (2, .int a2)] [.int s0] := by
  unfold x9_parseCommand_j76 at E
  refine r_istore_n X 3 (L1 := [(3, .int s0), (0, .ref a0), (1, .int a1), (2, .int a2)]) dX9_parseCommand_76 rfl (by decide) rfl ?_
  refine r_aload_n X 0 dX9_parseCommand_77 rfl rfl ?_
  obtain ⟨u4, e5, E⟩ := gb_some E
  obtain ⟨r1, g2, e3, E⟩ := cb_some E
  refine r_callV0 X hl0 (ci := 9) dX9_parseCommand_78 y_X9_parseEnd m_X9_202 rfl rfl e5 (t_x9_parseEnd (l := l) (G := G) e3) rfl rfl (Nat.le_of_ble_eq_true rfl) (by decide) ?_
  refine r_aload_n X 0 dX9_parseCommand_81 rfl rfl ?_
  obtain ⟨u9, e10, E⟩ := gb_some E
  obtain ⟨r6, g7, e8, E⟩ := cb_some E
  refine r_callV0 X hl0 (ci := 9) dX9_parseCommand_82 y_X9_isFine m_X9_147 rfl rfl e10 (t_x9_isFine (l := l) (G := G) e8) rfl rfl (Nat.le_of_ble_eq_true rfl) (by decide) ?_
  refine r_if_eq X 134 dX9_parseCommand_85 (by decide) (fun c11 => ?_) (fun c11 => ?_)
  · rw [if_pos c11] at E
    cases E
    exact r_vret X hr dX9_parseCommand_134 (by decide) (by decide)
  · rw [if_neg c11] at E
    refine r_iconst X (v := 3) dX9_parseCommand_88 (by decide) ?_
    refine r_aload_n X 0 dX9_parseCommand_89 rfl rfl ?_
    obtain ⟨x12, e13, E⟩ := gb_some E
    refine r_getI X dX9_parseCommand_90 f_X9_173 e13 ?_
    refine r_imul X dX9_parseCommand_93 ?_
    refine r_istore X (L1 := [(4, .int (3 * x12)), (3, .int s0), (0, .ref a0), (1, .int a1), (2, .int a2)]) dX9_parseCommand_94 (by decide) rfl ?_
    refine r_aload_n X 0 dX9_parseCommand_96 rfl rfl ?_
    obtain ⟨x14, e15, E⟩ := gb_some E
    refine r_getR X dX9_parseCommand_97 f_X9_37 e15 ?_
    refine r_iload X dX9_parseCommand_100 rfl ?_
    refine r_iload_n X 1 dX9_parseCommand_102 rfl rfl ?_
    obtain ⟨g16, e17, E⟩ := gb_some E
    refine r_iast X dX9_parseCommand_103 e17 ?_
    refine r_aload_n X 0 dX9_parseCommand_104 rfl rfl ?_
    obtain ⟨x18, e19, E⟩ := gb_some E
    refine r_getR X dX9_parseCommand_105 f_X9_37 e19 ?_
    refine r_iload X dX9_parseCommand_108 rfl ?_
    refine r_iconst X (v := 1) dX9_parseCommand_110 (by decide) ?_
    refine r_iadd X dX9_parseCommand_111 ?_
    refine r_iload_n X 2 dX9_parseCommand_112 rfl rfl ?_
    obtain ⟨g20, e21, E⟩ := gb_some E
    refine r_iast X dX9_parseCommand_113 e21 ?_
    refine r_aload_n X 0 dX9_parseCommand_114 rfl rfl ?_
    obtain ⟨x22, e23, E⟩ := gb_some E
    refine r_getR X dX9_parseCommand_115 f_X9_37 e23 ?_
    refine r_iload X dX9_parseCommand_118 rfl ?_
    refine r_iconst X (v := 2) dX9_parseCommand_120 (by decide) ?_
    refine r_iadd X dX9_parseCommand_121 ?_
    refine r_iload_n X 3 dX9_parseCommand_122 rfl rfl ?_
    obtain ⟨g24, e25, E⟩ := gb_some E
    refine r_iast X dX9_parseCommand_123 e25 ?_
    refine r_aload_n X 0 dX9_parseCommand_124 rfl rfl ?_
    refine r_dup X dX9_parseCommand_125 rfl ?_
    obtain ⟨x26, e27, E⟩ := gb_some E
    refine r_getI X dX9_parseCommand_126 f_X9_173 e27 ?_
    refine r_iconst X (v := 1) dX9_parseCommand_129 (by decide) ?_
    refine r_iadd X dX9_parseCommand_130 ?_
    obtain ⟨g28, e29, E⟩ := gb_some E
    refine r_put X dX9_parseCommand_131 f_X9_173 rfl rfl e29 ?_
    cases E
    exact r_vret X hr dX9_parseCommand_134 (by decide) (by decide)
set_option maxHeartbeats 4000000 in
set_option maxRecDepth 100000 in
theorem t_x9_parseCommand_j59 {l : Launch} {G : GG} {M : MC} (X : CX M G cX9_parseCommand 5 RX9 ⟨9, 0, 0, 262⟩) (hl0 : M.2.1 = l) (hr : (mM M).sig.returnType = none) (hnm : (mM M).name = yX9_parseCommand.name) {a0 : Nat} {a1 : Int32} {s0 : Int32} {g : AH} {r : Unit} {g1 : AH} (E : x9_parseCommand_j59 a0 a1 s0 g = some (r, g1)) : WW M G 5 (RQ M G none g1 0 0) 0 0 g 59 [(0, .ref a0), (1, .int a1)] [.int s0] := by
  unfold x9_parseCommand_j59 at E
  refine r_istore_n X 2 (L1 := [(2, .int s0), (0, .ref a0), (1, .int a1)]) dX9_parseCommand_59 rfl (by decide) rfl ?_
  refine r_aload_n X 0 dX9_parseCommand_60 rfl rfl ?_
  obtain ⟨u4, e5, E⟩ := gb_some E
  obtain ⟨r1, g2, e3, E⟩ := cb_some E
  refine r_callV0 X hl0 (ci := 9) dX9_parseCommand_61 y_X9_isFine m_X9_147 rfl rfl e5 (t_x9_isFine (l := l) (G := G) e3) rfl rfl (Nat.le_of_ble_eq_true rfl) (by decide) ?_
  refine r_if_eq X 75 dX9_parseCommand_64 (by decide) (fun c6 => ?_) (fun c6 => ?_)
  · rw [if_pos c6] at E
    refine r_iconst X (v := 0) dX9_parseCommand_75 (by decide) ?_
    exact r_pick (by rfl : lpick [(2, .int s0), (0, .ref a0), (1, .int a1)] [1, 2, 0] = _) (t_x9_parseCommand_j76 X hl0 hr hnm E)
  · rw [if_neg c6] at E
    refine r_aload_n X 0 dX9_parseCommand_67 rfl rfl ?_
    refine r_iload_n X 1 dX9_parseCommand_68 rfl rfl ?_
    obtain ⟨u10, e11, E⟩ := gb_some E
    obtain ⟨r7, g8, e9, E⟩ := cb_some E
    refine r_callV0 X hl0 (ci := 9) dX9_parseCommand_69 y_X9_parseSecond m_X9_269 rfl rfl e11 (t_x9_parseSecond (l := l) (G := G) e9) rfl rfl (Nat.le_of_ble_eq_true rfl) (by decide) ?_
    refine r_goto X 76 dX9_parseCommand_72 (by decide) ?_
    exact r_pick (by rfl : lpick [(2, .int s0), (0, .ref a0), (1, .int a1)] [1, 2, 0] = _) (t_x9_parseCommand_j76 X hl0 hr hnm E)
set_option maxHeartbeats 4000000 in
set_option maxRecDepth 100000 in
theorem t_x9_parseCommand_j35 {l : Launch} {G : GG} {M : MC} (X : CX M G cX9_parseCommand 5 RX9 ⟨9, 0, 0, 262⟩) (hl0 : M.2.1 = l) (hr : (mM M).sig.returnType = none) (hnm : (mM M).name = yX9_parseCommand.name) {a0 : Nat} {a1 : Int32} {s0 : Int32} {s1 : Nat} {g : AH} {r : Unit} {g1 : AH} (E : x9_parseCommand_j35 a0 a1 s0 s1 g = some (r, g1)) : WW M G 5 (RQ M G none g1 0 0) 0 0 g 35 [(0, .ref a0), (1, .int a1)] [.int s0, .ref s1] := by
  unfold x9_parseCommand_j35 at E
  refine r_iconst X (v := 3) dX9_parseCommand_35 (by decide) ?_
  obtain ⟨u4, e5, E⟩ := gb_some E
  obtain ⟨r1, g2, e3, E⟩ := cb_some E
  refine r_callV0 X hl0 (ci := 9) dX9_parseCommand_36 y_X9_require m_X9_188 rfl rfl e5 (t_x9_require (l := l) (G := G) e3) rfl rfl (Nat.le_of_ble_eq_true rfl) (by decide) ?_
  refine r_aload_n X 0 dX9_parseCommand_39 rfl rfl ?_
  obtain ⟨u9, e10, E⟩ := gb_some E
  obtain ⟨r6, g7, e8, E⟩ := cb_some E
  refine r_callV0 X hl0 (ci := 9) dX9_parseCommand_40 y_X9_proceed m_X9_176 rfl rfl e10 (t_x9_proceed (l := l) (G := G) e8) rfl rfl (Nat.le_of_ble_eq_true rfl) (by decide) ?_
  refine r_aload_n X 0 dX9_parseCommand_43 rfl rfl ?_
  obtain ⟨u14, e15, E⟩ := gb_some E
  obtain ⟨r11, g12, e13, E⟩ := cb_some E
  refine r_callV0 X hl0 (ci := 9) dX9_parseCommand_44 y_X9_isFine m_X9_147 rfl rfl e15 (t_x9_isFine (l := l) (G := G) e13) rfl rfl (Nat.le_of_ble_eq_true rfl) (by decide) ?_
  refine r_if_eq X 58 dX9_parseCommand_47 (by decide) (fun c16 => ?_) (fun c16 => ?_)
  · rw [if_pos c16] at E
    refine r_iconst X (v := 0) dX9_parseCommand_58 (by decide) ?_
    exact r_pick (by rfl : lpick [(0, .ref a0), (1, .int a1)] [0, 1] = _) (t_x9_parseCommand_j59 X hl0 hr hnm E)
  · rw [if_neg c16] at E
    refine r_aload_n X 0 dX9_parseCommand_50 rfl rfl ?_
    refine r_iload_n X 1 dX9_parseCommand_51 rfl rfl ?_
    obtain ⟨u20, e21, E⟩ := gb_some E
    obtain ⟨r17, g18, e19, E⟩ := cb_some E
    refine r_callV0 X hl0 (ci := 9) dX9_parseCommand_52 y_X9_parseFirst m_X9_266 rfl rfl e21 (t_x9_parseFirst (l := l) (G := G) e19) rfl rfl (Nat.le_of_ble_eq_true rfl) (by decide) ?_
    refine r_goto X 59 dX9_parseCommand_55 (by decide) ?_
    exact r_pick (by rfl : lpick [(0, .ref a0), (1, .int a1)] [0, 1] = _) (t_x9_parseCommand_j59 X hl0 hr hnm E)
set_option maxHeartbeats 4000000 in
set_option maxRecDepth 100000 in
theorem t_x9_parseCommand_j16 {l : Launch} {G : GG} {M : MC} (X : CX M G cX9_parseCommand 5 RX9 ⟨9, 0, 0, 262⟩) (hl0 : M.2.1 = l) (hr : (mM M).sig.returnType = none) (hnm : (mM M).name = yX9_parseCommand.name) {a0 : Nat} {a1 : Int32} {s0 : Int32} {s1 : Nat} {g : AH} {r : Unit} {g1 : AH} (E : x9_parseCommand_j16 a0 a1 s0 s1 g = some (r, g1)) : WW M G 5 (RQ M G none g1 0 0) 0 0 g 16 [(0, .ref a0), (1, .int a1)] [.int s0, .ref s1] := by
  unfold x9_parseCommand_j16 at E
  refine r_iconst X (v := 1) dX9_parseCommand_16 (by decide) ?_
  obtain ⟨u4, e5, E⟩ := gb_some E
  obtain ⟨r1, g2, e3, E⟩ := cb_some E
  refine r_callV0 X hl0 (ci := 9) dX9_parseCommand_17 y_X9_require m_X9_188 rfl rfl e5 (t_x9_require (l := l) (G := G) e3) rfl rfl (Nat.le_of_ble_eq_true rfl) (by decide) ?_
  refine r_aload_n X 0 dX9_parseCommand_20 rfl rfl ?_
  refine r_aload_n X 0 dX9_parseCommand_21 rfl rfl ?_
  obtain ⟨x6, e7, E⟩ := gb_some E
  refine r_getI X dX9_parseCommand_22 f_X9_173 e7 ?_
  refine r_bipush X (v := 30) dX9_parseCommand_25 (by decide) ?_
  refine r_icmp_ge X 34 dX9_parseCommand_27 (by decide) (fun c8 => ?_) (fun c8 => ?_)
  · rw [if_pos c8] at E
    refine r_iconst X (v := 0) dX9_parseCommand_34 (by decide) ?_
    exact r_pick (by rfl : lpick [(0, .ref a0), (1, .int a1)] [0, 1] = _) (t_x9_parseCommand_j35 X hl0 hr hnm E)
  · rw [if_neg c8] at E
    refine r_iconst X (v := 1) dX9_parseCommand_30 (by decide) ?_
    refine r_goto X 35 dX9_parseCommand_31 (by decide) ?_
    exact r_pick (by rfl : lpick [(0, .ref a0), (1, .int a1)] [0, 1] = _) (t_x9_parseCommand_j35 X hl0 hr hnm E)
set_option maxHeartbeats 4000000 in
set_option maxRecDepth 100000 in
theorem t_x9_parseCommand_b {l : Launch} {G : GG} {M : MC} (X : CX M G cX9_parseCommand 5 RX9 ⟨9, 0, 0, 262⟩) (hl0 : M.2.1 = l) (hr : (mM M).sig.returnType = none) (hnm : (mM M).name = yX9_parseCommand.name) {p : Nat} {g : AH} {r : Unit} {g1 : AH} (E : x9_parseCommand p g = some (r, g1)) : WW M G 5 (RQ M G none g1 0 0) 0 0 g 0 [(0, .ref p)] [] := by
  unfold x9_parseCommand at E
  refine r_aload_n X 0 dX9_parseCommand_0 rfl rfl ?_
  obtain ⟨u4, e5, E⟩ := gb_some E
  obtain ⟨r1, g2, e3, E⟩ := cb_some E
  refine r_callV0 X hl0 (ci := 9) dX9_parseCommand_1 y_X9_commandHere m_X9_263 rfl rfl e5 (t_x9_commandHere (l := l) (G := G) e3) rfl rfl (Nat.le_of_ble_eq_true rfl) (by decide) ?_
  refine r_istore_n X 1 (L1 := [(1, .int r1), (0, .ref p)]) dX9_parseCommand_4 rfl (by decide) rfl ?_
  refine r_aload_n X 0 dX9_parseCommand_5 rfl rfl ?_
  refine r_iload_n X 1 dX9_parseCommand_6 rfl rfl ?_
  refine r_iconst X (v := (-1)) dX9_parseCommand_7 (by decide) ?_
  refine r_icmp_eq X 15 dX9_parseCommand_8 (by decide) (fun c6 => ?_) (fun c6 => ?_)
  · rw [if_pos c6] at E
    refine r_iconst X (v := 0) dX9_parseCommand_15 (by decide) ?_
    exact r_pick (by rfl : lpick [(1, .int r1), (0, .ref p)] [1, 0] = _) (t_x9_parseCommand_j16 X hl0 hr hnm E)
  · rw [if_neg c6] at E
    refine r_iconst X (v := 1) dX9_parseCommand_11 (by decide) ?_
    refine r_goto X 16 dX9_parseCommand_12 (by decide) ?_
    exact r_pick (by rfl : lpick [(1, .int r1), (0, .ref p)] [1, 0] = _) (t_x9_parseCommand_j16 X hl0 hr hnm E)
theorem t_x9_parseCommand {l : Launch} {G : GG} {p : Nat} {g : AH} {r : Unit} {g1 : AH} (E : x9_parseCommand p g = some (r, g1)) : Ct l G yX9_parseCommand cX9_parseCommand 5 none ⟨9, 0, 0, 262⟩ [.ref p] g none g1 :=
  ct_of (L0 := [(0, .ref p)]) y_X9_parseCommand rfl (Nat.le_of_ble_eq_true rfl) fun M hl0 X hr hnm => t_x9_parseCommand_b X hl0 hr hnm E
set_option maxHeartbeats 4000000 in
set_option maxRecDepth 100000 in
theorem t_x9_isOnPile_b {l : Launch} {G : GG} {M : MC} (X : CX M G cX9_isOnPile 2 RX9 ⟨3, 0, 0, 105⟩) (hl0 : M.2.1 = l) (hr : (mM M).sig.returnType = (some .boolean)) (hnm : (mM M).name = yX9_isOnPile.name) {p : Nat} {b0 : Int32} {g : AH} {r : Int32} {g1 : AH} (E : x9_isOnPile p b0 g = some (r, g1)) : WW M G 2 (RQ M G (some (.int r)) g1 0 0) 0 0 g 0 [(0, .ref p), (1, .int b0)] [] := by
  unfold x9_isOnPile at E
  refine r_aload_n X 0 dX9_isOnPile_0 rfl rfl ?_
  refine r_iconst X (v := 5) dX9_isOnPile_1 (by decide) ?_
  refine r_iload_n X 1 dX9_isOnPile_2 rfl rfl ?_
  obtain ⟨u4, e5, E⟩ := gb_some E
  obtain ⟨r1, g2, e3, E⟩ := cb_some E
  refine r_callV0 X hl0 (ci := 9) dX9_isOnPile_3 y_X9_hikerWith m_X9_76 rfl rfl e5 (t_x9_hikerWith (l := l) (G := G) e3) rfl rfl (Nat.le_of_ble_eq_true rfl) (by decide) ?_
  refine r_iconst X (v := (-1)) dX9_isOnPile_6 (by decide) ?_
  refine r_icmp_ne X 14 dX9_isOnPile_7 (by decide) (fun c6 => ?_) (fun c6 => ?_)
  · rw [if_neg c6] at E
    refine r_iconst X (v := 0) dX9_isOnPile_14 (by decide) ?_
    cases E
    exact r_zret X hr (Or.inl rfl) dX9_isOnPile_15 (by decide) (by decide)
  · rw [if_pos c6] at E
    refine r_iconst X (v := 1) dX9_isOnPile_10 (by decide) ?_
    refine r_goto X 15 dX9_isOnPile_11 (by decide) ?_
    cases E
    exact r_zret X hr (Or.inr rfl) dX9_isOnPile_15 (by decide) (by decide)
theorem t_x9_isOnPile {l : Launch} {G : GG} {p : Nat} {b0 : Int32} {g : AH} {r : Int32} {g1 : AH} (E : x9_isOnPile p b0 g = some (r, g1)) : Ct l G yX9_isOnPile cX9_isOnPile 2 (some .boolean) ⟨3, 0, 0, 105⟩ [.ref p, .int b0] g (some (.int r)) g1 :=
  ct_of (L0 := [(0, .ref p), (1, .int b0)]) y_X9_isOnPile rfl (Nat.le_of_ble_eq_true rfl) fun M hl0 X hr hnm => t_x9_isOnPile_b X hl0 hr hnm E
set_option maxHeartbeats 4000000 in
set_option maxRecDepth 100000 in
theorem t_x9_record_j52 {l : Launch} {G : GG} {M : MC} (X : CX M G cX9_record 2 RX9 ⟨2, 0, 0, 84⟩) (hl0 : M.2.1 = l) (hr : (mM M).sig.returnType = none) (hnm : (mM M).name = yX9_record.name) {a0 : Nat} {g : AH} {r : Unit} {g1 : AH} (E : x9_record_j52 a0 g = some (r, g1)) : WW M G 2 (RQ M G none g1 0 0) 0 0 g 52 [(0, .ref a0)] [] := by
  unfold x9_record_j52 at E
  refine r_aload_n X 0 dX9_record_52 rfl rfl ?_
  obtain ⟨x1, e2, E⟩ := gb_some E
  refine r_getR X dX9_record_53 f_X9_7 e2 ?_
  refine r_iconst X (v := 0) dX9_record_56 (by decide) ?_
  refine r_aload_n X 0 dX9_record_57 rfl rfl ?_
  obtain ⟨x3, e4, E⟩ := gb_some E
  refine r_getR X dX9_record_58 f_X9_16 e4 ?_
  refine r_sipush X (v := 149) dX9_record_61 (by decide) ?_
  refine r_aload_n X 0 dX9_record_64 rfl rfl ?_
  obtain ⟨x5, e6, E⟩ := gb_some E
  refine r_getI X dX9_record_65 f_X9_241 e6 ?_
  refine r_imul X dX9_record_68 ?_
  obtain ⟨r7, g8, e9, E⟩ := cb_some E
  refine r_callS0 X hl0 dX9_record_69 y_X9_copy m_X9_60 (t_x9_copy (l := l) (G := G) e9) rfl rfl (Nat.le_of_ble_eq_true rfl) (by decide) ?_
  refine r_aload_n X 0 dX9_record_72 rfl rfl ?_
  refine r_dup X dX9_record_73 rfl ?_
  obtain ⟨x10, e11, E⟩ := gb_some E
  refine r_getI X dX9_record_74 f_X9_241 e11 ?_
  refine r_iconst X (v := 1) dX9_record_77 (by decide) ?_
  refine r_iadd X dX9_record_78 ?_
  obtain ⟨g12, e13, E⟩ := gb_some E
  refine r_put X dX9_record_79 f_X9_241 rfl rfl e13 ?_
  cases E
  exact r_vret X hr dX9_record_82 (by decide) (by decide)
set_option maxHeartbeats 4000000 in
set_option maxRecDepth 100000 in
theorem t_x9_record_l13 {l : Launch} {G : GG} {M : MC} (X : CX M G cX9_record 2 RX9 ⟨2, 0, 0, 84⟩) (hl0 : M.2.1 = l) (hr : (mM M).sig.returnType = none) (hnm : (mM M).name = yX9_record.name) {Q : State → Prop} {kc ks : Nat} {s9 : ((Int32) ⊕ (Unit))} {g1 : AH} {a0 : Nat} {s0 : Int32} (hc : ∀ s1, s9 = .inl s1 → WW M G 2 Q kc ks g1 13 [(0, .ref a0), (1, .int s1)] []) (hx : ∀ t, s9 = .inr t → WW M G 2 Q kc ks g1 42 [(0, .ref a0)] []) {g : AH} (E : x9_record_l13 a0 s0 g = some (s9, g1)) : WW M G 2 Q kc ks g 13 [(0, .ref a0), (1, .int s0)] [] := by
  unfold x9_record_l13 at E
  refine r_iload_n X 1 dX9_record_13 rfl rfl ?_
  refine r_sipush X (v := 894) dX9_record_14 (by decide) ?_
  refine r_icmp_ge X 42 dX9_record_17 (by decide) (fun c1 => ?_) (fun c1 => ?_)
  · rw [if_pos c1] at E
    cases E
    exact r_pick (by rfl : lpick [(0, .ref a0), (1, .int s0)] [0] = _) (hx _ rfl)
  · rw [if_neg c1] at E
    refine r_aload_n X 0 dX9_record_20 rfl rfl ?_
    obtain ⟨x2, e3, E⟩ := gb_some E
    refine r_getR X dX9_record_21 f_X9_16 e3 ?_
    refine r_iload_n X 1 dX9_record_24 rfl rfl ?_
    refine r_sipush X (v := 149) dX9_record_25 (by decide) ?_
    refine r_isub X dX9_record_28 ?_
    refine r_aload_n X 0 dX9_record_29 rfl rfl ?_
    obtain ⟨x4, e5, E⟩ := gb_some E
    refine r_getR X dX9_record_30 f_X9_16 e5 ?_
    refine r_iload_n X 1 dX9_record_33 rfl rfl ?_
    obtain ⟨x6, e7, E⟩ := gb_some E
    refine r_iald X dX9_record_34 e7 ?_
    obtain ⟨g8, e9, E⟩ := gb_some E
    refine r_iast X dX9_record_35 e9 ?_
    refine r_iinc X (v := (s0 + 1)) (L1 := [(1, .int (s0 + 1)), (0, .ref a0)]) dX9_record_36 rfl rfl (by decide) rfl ?_
    refine r_goto X 13 dX9_record_39 (by decide) ?_
    cases E
    exact r_pick (by rfl : lpick [(1, .int (s0 + 1)), (0, .ref a0)] [1, 0] = _) (hc _ rfl)
set_option maxHeartbeats 4000000 in
theorem t_x9_record_l13_r {l : Launch} {G : GG} {M : MC} (X : CX M G cX9_record 2 RX9 ⟨2, 0, 0, 84⟩) (hl0 : M.2.1 = l) (hr : (mM M).sig.returnType = none) (hnm : (mM M).name = yX9_record.name) {Q : State → Prop} {kc ks : Nat} {a0 : Nat} : ∀ (n : Nat) (s0 : Int32) (g : AH) (t : (Unit)) (g1 : AH), loopX (x9_record_l13 a0) n s0 g = some (t, g1) → WW M G 2 Q kc ks g1 42 [(0, .ref a0)] [] → WW M G 2 Q kc ks g 13 [(0, .ref a0), (1, .int s0)] [] :=
  loop_cps (K := fun t g1 => WW M G 2 Q kc ks g1 42 [(0, .ref a0)] []) (fun _ s0 g => WW M G 2 Q kc ks g 13 [(0, .ref a0), (1, .int s0)] []) (fun n s0 g st g1 E hc hx => t_x9_record_l13 X hl0 hr hnm hc hx E)
set_option maxHeartbeats 4000000 in
set_option maxRecDepth 100000 in
theorem t_x9_record_b {l : Launch} {G : GG} {M : MC} (X : CX M G cX9_record 2 RX9 ⟨2, 0, 0, 84⟩) (hl0 : M.2.1 = l) (hr : (mM M).sig.returnType = none) (hnm : (mM M).name = yX9_record.name) {p : Nat} {g : AH} {r : Unit} {g1 : AH} (E : x9_record p g = some (r, g1)) : WW M G 2 (RQ M G none g1 0 0) 0 0 g 0 [(0, .ref p)] [] := by
  unfold x9_record at E
  refine r_aload_n X 0 dX9_record_0 rfl rfl ?_
  obtain ⟨x1, e2, E⟩ := gb_some E
  refine r_getI X dX9_record_1 f_X9_241 e2 ?_
  refine r_bipush X (v := 6) dX9_record_4 (by decide) ?_
  refine r_icmp_ne X 52 dX9_record_6 (by decide) (fun c3 => ?_) (fun c3 => ?_)
  · rw [if_neg c3] at E
    exact r_pick (by rfl : lpick [(0, .ref p)] [0] = _) (t_x9_record_j52 X hl0 hr hnm E)
  · rw [if_pos c3] at E
    refine r_sipush X (v := 149) dX9_record_9 (by decide) ?_
    refine r_istore_n X 1 (L1 := [(1, .int 149), (0, .ref p)]) dX9_record_12 rfl (by decide) rfl ?_
    obtain ⟨t4, g5, e6, E⟩ := cb_some E
    refine r_pick (by rfl : lpick [(1, .int 149), (0, .ref p)] [1, 0] = _) (t_x9_record_l13_r X hl0 hr hnm _ _ _ _ _ e6 ?_)
    refine r_aload_n X 0 dX9_record_42 rfl rfl ?_
    refine r_dup X dX9_record_43 rfl ?_
    obtain ⟨x7, e8, E⟩ := gb_some E
    refine r_getI X dX9_record_44 f_X9_241 e8 ?_
    refine r_iconst X (v := 1) dX9_record_47 (by decide) ?_
    refine r_isub X dX9_record_48 ?_
    obtain ⟨g9, e10, E⟩ := gb_some E
    refine r_put X dX9_record_49 f_X9_241 rfl rfl e10 ?_
    exact r_pick (by rfl : lpick [(0, .ref p)] [0] = _) (t_x9_record_j52 X hl0 hr hnm E)
theorem t_x9_record {l : Launch} {G : GG} {p : Nat} {g : AH} {r : Unit} {g1 : AH} (E : x9_record p g = some (r, g1)) : Ct l G yX9_record cX9_record 2 none ⟨2, 0, 0, 84⟩ [.ref p] g none g1 :=
  ct_of (L0 := [(0, .ref p)]) y_X9_record rfl (Nat.le_of_ble_eq_true rfl) fun M hl0 X hr hnm => t_x9_record_b X hl0 hr hnm E
set_option maxHeartbeats 4000000 in
set_option maxRecDepth 100000 in
theorem t_x9_change_b {l : Launch} {G : GG} {M : MC} (X : CX M G cX9_change 5 RX9 ⟨3, 0, 0, 105⟩) (hl0 : M.2.1 = l) (hr : (mM M).sig.returnType = (some .int)) (hnm : (mM M).name = yX9_change.name) {p : Nat} {b0 : Int32} {b1 : Int32} {b2 : Int32} {g : AH} {r : Int32} {g1 : AH} (E : x9_change p b0 b1 b2 g = some (r, g1)) : WW M G 5 (RQ M G (some (.int r)) g1 0 0) 0 0 g 0 [(0, .ref p), (1, .int b0), (2, .int b1), (3, .int b2)] [] := by
  unfold x9_change at E
  refine r_aload_n X 0 dX9_change_0 rfl rfl ?_
  obtain ⟨u4, e5, E⟩ := gb_some E
  obtain ⟨r1, g2, e3, E⟩ := cb_some E
  refine r_callV0 X hl0 (ci := 9) dX9_change_1 y_X9_record m_X9_413 rfl rfl e5 (t_x9_record (l := l) (G := G) e3) rfl rfl (Nat.le_of_ble_eq_true rfl) (by decide) ?_
  refine r_aload_n X 0 dX9_change_4 rfl rfl ?_
  refine r_iload_n X 1 dX9_change_5 rfl rfl ?_
  refine r_iload_n X 2 dX9_change_6 rfl rfl ?_
  obtain ⟨u9, e10, E⟩ := gb_some E
  obtain ⟨r6, g7, e8, E⟩ := cb_some E
  refine r_callV0 X hl0 (ci := 9) dX9_change_7 y_X9_get m_X9_64 rfl rfl e10 (t_x9_get (l := l) (G := G) e8) rfl rfl (Nat.le_of_ble_eq_true rfl) (by decide) ?_
  refine r_istore X (L1 := [(4, .int r6), (0, .ref p), (1, .int b0), (2, .int b1), (3, .int b2)]) dX9_change_10 (by decide) rfl ?_
  refine r_aload_n X 0 dX9_change_12 rfl rfl ?_
  refine r_iload_n X 1 dX9_change_13 rfl rfl ?_
  refine r_iload_n X 2 dX9_change_14 rfl rfl ?_
  refine r_iload_n X 3 dX9_change_15 rfl rfl ?_
  obtain ⟨u14, e15, E⟩ := gb_some E
  obtain ⟨r11, g12, e13, E⟩ := cb_some E
  refine r_callV0 X hl0 (ci := 9) dX9_change_16 y_X9_set m_X9_54 rfl rfl e15 (t_x9_set (l := l) (G := G) e13) rfl rfl (Nat.le_of_ble_eq_true rfl) (by decide) ?_
  refine r_iload X dX9_change_19 rfl ?_
  cases E
  exact r_iret X hr dX9_change_21 (by decide) (by decide)
theorem t_x9_change {l : Launch} {G : GG} {p : Nat} {b0 : Int32} {b1 : Int32} {b2 : Int32} {g : AH} {r : Int32} {g1 : AH} (E : x9_change p b0 b1 b2 g = some (r, g1)) : Ct l G yX9_change cX9_change 5 (some .int) ⟨3, 0, 0, 105⟩ [.ref p, .int b0, .int b1, .int b2] g (some (.int r)) g1 :=
  ct_of (L0 := [(0, .ref p), (1, .int b0), (2, .int b1), (3, .int b2)]) y_X9_change rfl (Nat.le_of_ble_eq_true rfl) fun M hl0 X hr hnm => t_x9_change_b X hl0 hr hnm E
set_option maxHeartbeats 4000000 in
set_option maxRecDepth 100000 in
theorem t_x9_takeBlanket_j34 {l : Launch} {G : GG} {M : MC} (X : CX M G cX9_takeBlanket 4 RX9 ⟨6, 0, 0, 170⟩) (hl0 : M.2.1 = l) (hr : (mM M).sig.returnType = (some .int)) (hnm : (mM M).name = yX9_takeBlanket.name) {a0 : Nat} {a1 : Int32} {a2 : Int32} {s0 : Int32} {s1 : Nat} {g : AH} {r : Int32} {g1 : AH} (E : x9_takeBlanket_j34 a0 a1 a2 s0 s1 g = some (r, g1)) : WW M G 4 (RQ M G (some (.int r)) g1 0 0) 0 0 g 34 [(0, .ref a0), (1, .int a1), (2, .int a2)] [.int s0, .ref s1] := by
  unfold x9_takeBlanket_j34 at E
  obtain ⟨g1, e2, E⟩ := gb_some E
  refine r_put X dX9_takeBlanket_34 f_X9_57 rfl rfl e2 ?_
  refine r_aload_n X 0 dX9_takeBlanket_37 rfl rfl ?_
  obtain ⟨x3, e4, E⟩ := gb_some E
  refine r_getI X dX9_takeBlanket_38 f_X9_57 e4 ?_
  refine r_if_le X 46 dX9_takeBlanket_41 (by decide) (fun c5 => ?_) (fun c5 => ?_)
  · rw [if_pos c5] at E
    refine r_aload_n X 0 dX9_takeBlanket_46 rfl rfl ?_
    refine r_iload_n X 1 dX9_takeBlanket_47 rfl rfl ?_
    refine r_iconst X (v := 5) dX9_takeBlanket_48 (by decide) ?_
    refine r_iload_n X 2 dX9_takeBlanket_49 rfl rfl ?_
    obtain ⟨u9, e10, E⟩ := gb_some E
    obtain ⟨r6, g7, e8, E⟩ := cb_some E
    refine r_callV0 X hl0 (ci := 9) dX9_takeBlanket_50 y_X9_change m_X9_416 rfl rfl e10 (t_x9_change (l := l) (G := G) e8) rfl rfl (Nat.le_of_ble_eq_true rfl) (by decide) ?_
    refine r_istore_n X 3 (L1 := [(3, .int r6), (0, .ref a0), (1, .int a1), (2, .int a2)]) dX9_takeBlanket_53 rfl (by decide) rfl ?_
    refine r_aload_n X 0 dX9_takeBlanket_54 rfl rfl ?_
    refine r_iload_n X 1 dX9_takeBlanket_55 rfl rfl ?_
    obtain ⟨u14, e15, E⟩ := gb_some E
    obtain ⟨r11, g12, e13, E⟩ := cb_some E
    refine r_callV0 X hl0 (ci := 9) dX9_takeBlanket_56 y_X9_warmthNow m_X9_93 rfl rfl e15 (t_x9_warmthNow (l := l) (G := G) e13) rfl rfl (Nat.le_of_ble_eq_true rfl) (by decide) ?_
    cases E
    exact r_iret X hr dX9_takeBlanket_59 (by decide) (by decide)
  · rw [if_neg c5] at E
    refine r_iconst X (v := 0) dX9_takeBlanket_44 (by decide) ?_
    cases E
    exact r_iret X hr dX9_takeBlanket_45 (by decide) (by decide)
set_option maxHeartbeats 4000000 in
set_option maxRecDepth 100000 in
theorem t_x9_takeBlanket_j17 {l : Launch} {G : GG} {M : MC} (X : CX M G cX9_takeBlanket 4 RX9 ⟨6, 0, 0, 170⟩) (hl0 : M.2.1 = l) (hr : (mM M).sig.returnType = (some .int)) (hnm : (mM M).name = yX9_takeBlanket.name) {a0 : Nat} {a1 : Int32} {a2 : Int32} {s0 : Nat} {g : AH} {r : Int32} {g1 : AH} (E : x9_takeBlanket_j17 a0 a1 a2 s0 g = some (r, g1)) : WW M G 4 (RQ M G (some (.int r)) g1 0 0) 0 0 g 17 [(0, .ref a0), (1, .int a1), (2, .int a2)] [.ref s0] := by
  unfold x9_takeBlanket_j17 at E
  refine r_iconst X (v := 1) dX9_takeBlanket_17 (by decide) ?_
  refine r_goto X 34 dX9_takeBlanket_18 (by decide) ?_
  exact r_pick (by rfl : lpick [(0, .ref a0), (1, .int a1), (2, .int a2)] [0, 1, 2] = _) (t_x9_takeBlanket_j34 X hl0 hr hnm E)
set_option maxHeartbeats 4000000 in
set_option maxRecDepth 100000 in
theorem t_x9_takeBlanket_b {l : Launch} {G : GG} {M : MC} (X : CX M G cX9_takeBlanket 4 RX9 ⟨6, 0, 0, 170⟩) (hl0 : M.2.1 = l) (hr : (mM M).sig.returnType = (some .int)) (hnm : (mM M).name = yX9_takeBlanket.name) {p : Nat} {b0 : Int32} {b1 : Int32} {g : AH} {r : Int32} {g1 : AH} (E : x9_takeBlanket p b0 b1 g = some (r, g1)) : WW M G 4 (RQ M G (some (.int r)) g1 0 0) 0 0 g 0 [(0, .ref p), (1, .int b0), (2, .int b1)] [] := by
  unfold x9_takeBlanket at E
  refine r_aload_n X 0 dX9_takeBlanket_0 rfl rfl ?_
  refine r_aload_n X 0 dX9_takeBlanket_1 rfl rfl ?_
  refine r_iload_n X 1 dX9_takeBlanket_2 rfl rfl ?_
  obtain ⟨u4, e5, E⟩ := gb_some E
  obtain ⟨r1, g2, e3, E⟩ := cb_some E
  refine r_callV0 X hl0 (ci := 9) dX9_takeBlanket_3 y_X9_isHiker m_X9_324 rfl rfl e5 (t_x9_isHiker (l := l) (G := G) e3) rfl rfl (Nat.le_of_ble_eq_true rfl) (by decide) ?_
  refine r_if_eq X 17 dX9_takeBlanket_6 (by decide) (fun c6 => ?_) (fun c6 => ?_)
  · rw [if_pos c6] at E
    exact r_pick (by rfl : lpick [(0, .ref p), (1, .int b0), (2, .int b1)] [0, 1, 2] = _) (t_x9_takeBlanket_j17 X hl0 hr hnm E)
  · rw [if_neg c6] at E
    refine r_aload_n X 0 dX9_takeBlanket_9 rfl rfl ?_
    refine r_iload_n X 2 dX9_takeBlanket_10 rfl rfl ?_
    obtain ⟨u10, e11, E⟩ := gb_some E
    obtain ⟨r7, g8, e9, E⟩ := cb_some E
    refine r_callV0 X hl0 (ci := 9) dX9_takeBlanket_11 y_X9_isBlanket m_X9_333 rfl rfl e11 (t_x9_isBlanket (l := l) (G := G) e9) rfl rfl (Nat.le_of_ble_eq_true rfl) (by decide) ?_
    refine r_if_ne X 21 dX9_takeBlanket_14 (by decide) (fun c12 => ?_) (fun c12 => ?_)
    · rw [if_neg c12] at E
      refine r_aload_n X 0 dX9_takeBlanket_21 rfl rfl ?_
      refine r_iload_n X 2 dX9_takeBlanket_22 rfl rfl ?_
      obtain ⟨u16, e17, E⟩ := gb_some E
      obtain ⟨r13, g14, e15, E⟩ := cb_some E
      refine r_callV0 X hl0 (ci := 9) dX9_takeBlanket_23 y_X9_isOnPile m_X9_336 rfl rfl e17 (t_x9_isOnPile (l := l) (G := G) e15) rfl rfl (Nat.le_of_ble_eq_true rfl) (by decide) ?_
      refine r_if_eq X 33 dX9_takeBlanket_26 (by decide) (fun c18 => ?_) (fun c18 => ?_)
      · rw [if_pos c18] at E
        refine r_iconst X (v := 2) dX9_takeBlanket_33 (by decide) ?_
        exact r_pick (by rfl : lpick [(0, .ref p), (1, .int b0), (2, .int b1)] [0, 1, 2] = _) (t_x9_takeBlanket_j34 X hl0 hr hnm E)
      · rw [if_neg c18] at E
        refine r_iconst X (v := 0) dX9_takeBlanket_29 (by decide) ?_
        refine r_goto X 34 dX9_takeBlanket_30 (by decide) ?_
        exact r_pick (by rfl : lpick [(0, .ref p), (1, .int b0), (2, .int b1)] [0, 1, 2] = _) (t_x9_takeBlanket_j34 X hl0 hr hnm E)
    · rw [if_pos c12] at E
      exact r_pick (by rfl : lpick [(0, .ref p), (1, .int b0), (2, .int b1)] [0, 1, 2] = _) (t_x9_takeBlanket_j17 X hl0 hr hnm E)
theorem t_x9_takeBlanket {l : Launch} {G : GG} {p : Nat} {b0 : Int32} {b1 : Int32} {g : AH} {r : Int32} {g1 : AH} (E : x9_takeBlanket p b0 b1 g = some (r, g1)) : Ct l G yX9_takeBlanket cX9_takeBlanket 4 (some .int) ⟨6, 0, 0, 170⟩ [.ref p, .int b0, .int b1] g (some (.int r)) g1 :=
  ct_of (L0 := [(0, .ref p), (1, .int b0), (2, .int b1)]) y_X9_takeBlanket rfl (Nat.le_of_ble_eq_true rfl) fun M hl0 X hr hnm => t_x9_takeBlanket_b X hl0 hr hnm E
set_option maxHeartbeats 4000000 in
set_option maxRecDepth 100000 in
theorem t_x9_returnBlanket_j28 {l : Launch} {G : GG} {M : MC} (X : CX M G cX9_returnBlanket 2 RX9 ⟨4, 0, 0, 129⟩) (hl0 : M.2.1 = l) (hr : (mM M).sig.returnType = (some .int)) (hnm : (mM M).name = yX9_returnBlanket.name) {a0 : Nat} {a1 : Int32} {s0 : Int32} {s1 : Nat} {g : AH} {r : Int32} {g1 : AH} (E : x9_returnBlanket_j28 a0 a1 s0 s1 g = some (r, g1)) : WW M G 2 (RQ M G (some (.int r)) g1 0 0) 0 0 g 28 [(0, .ref a0), (1, .int a1)] [.int s0, .ref s1] := by
  unfold x9_returnBlanket_j28 at E
  obtain ⟨g1, e2, E⟩ := gb_some E
  refine r_put X dX9_returnBlanket_28 f_X9_57 rfl rfl e2 ?_
  refine r_aload_n X 0 dX9_returnBlanket_31 rfl rfl ?_
  obtain ⟨x3, e4, E⟩ := gb_some E
  refine r_getI X dX9_returnBlanket_32 f_X9_57 e4 ?_
  refine r_if_le X 42 dX9_returnBlanket_35 (by decide) (fun c5 => ?_) (fun c5 => ?_)
  · rw [if_pos c5] at E
    refine r_aload_n X 0 dX9_returnBlanket_42 rfl rfl ?_
    refine r_iload_n X 1 dX9_returnBlanket_43 rfl rfl ?_
    refine r_iconst X (v := 5) dX9_returnBlanket_44 (by decide) ?_
    refine r_iconst X (v := (-1)) dX9_returnBlanket_45 (by decide) ?_
    obtain ⟨u9, e10, E⟩ := gb_some E
    obtain ⟨r6, g7, e8, E⟩ := cb_some E
    refine r_callV0 X hl0 (ci := 9) dX9_returnBlanket_46 y_X9_change m_X9_416 rfl rfl e10 (t_x9_change (l := l) (G := G) e8) rfl rfl (Nat.le_of_ble_eq_true rfl) (by decide) ?_
    cases E
    exact r_iret X hr dX9_returnBlanket_49 (by decide) (by decide)
  · rw [if_neg c5] at E
    refine r_iconst X (v := 0) dX9_returnBlanket_38 (by decide) ?_
    refine r_goto X 49 dX9_returnBlanket_39 (by decide) ?_
    cases E
    exact r_iret X hr dX9_returnBlanket_49 (by decide) (by decide)
set_option maxHeartbeats 4000000 in
set_option maxRecDepth 100000 in
theorem t_x9_returnBlanket_b {l : Launch} {G : GG} {M : MC} (X : CX M G cX9_returnBlanket 2 RX9 ⟨4, 0, 0, 129⟩) (hl0 : M.2.1 = l) (hr : (mM M).sig.returnType = (some .int)) (hnm : (mM M).name = yX9_returnBlanket.name) {p : Nat} {b0 : Int32} {g : AH} {r : Int32} {g1 : AH} (E : x9_returnBlanket p b0 g = some (r, g1)) : WW M G 2 (RQ M G (some (.int r)) g1 0 0) 0 0 g 0 [(0, .ref p), (1, .int b0)] [] := by
  unfold x9_returnBlanket at E
  refine r_aload_n X 0 dX9_returnBlanket_0 rfl rfl ?_
  refine r_aload_n X 0 dX9_returnBlanket_1 rfl rfl ?_
  refine r_iload_n X 1 dX9_returnBlanket_2 rfl rfl ?_
  obtain ⟨u4, e5, E⟩ := gb_some E
  obtain ⟨r1, g2, e3, E⟩ := cb_some E
  refine r_callV0 X hl0 (ci := 9) dX9_returnBlanket_3 y_X9_isHiker m_X9_324 rfl rfl e5 (t_x9_isHiker (l := l) (G := G) e3) rfl rfl (Nat.le_of_ble_eq_true rfl) (by decide) ?_
  refine r_if_ne X 13 dX9_returnBlanket_6 (by decide) (fun c6 => ?_) (fun c6 => ?_)
  · rw [if_neg c6] at E
    refine r_aload_n X 0 dX9_returnBlanket_13 rfl rfl ?_
    refine r_iload_n X 1 dX9_returnBlanket_14 rfl rfl ?_
    refine r_iconst X (v := 5) dX9_returnBlanket_15 (by decide) ?_
    obtain ⟨u10, e11, E⟩ := gb_some E
    obtain ⟨r7, g8, e9, E⟩ := cb_some E
    refine r_callV0 X hl0 (ci := 9) dX9_returnBlanket_16 y_X9_get m_X9_64 rfl rfl e11 (t_x9_get (l := l) (G := G) e9) rfl rfl (Nat.le_of_ble_eq_true rfl) (by decide) ?_
    refine r_iconst X (v := (-1)) dX9_returnBlanket_19 (by decide) ?_
    refine r_icmp_ne X 27 dX9_returnBlanket_20 (by decide) (fun c12 => ?_) (fun c12 => ?_)
    · rw [if_neg c12] at E
      refine r_iconst X (v := 0) dX9_returnBlanket_27 (by decide) ?_
      exact r_pick (by rfl : lpick [(0, .ref p), (1, .int b0)] [0, 1] = _) (t_x9_returnBlanket_j28 X hl0 hr hnm E)
    · rw [if_pos c12] at E
      refine r_iconst X (v := 2) dX9_returnBlanket_23 (by decide) ?_
      refine r_goto X 28 dX9_returnBlanket_24 (by decide) ?_
      exact r_pick (by rfl : lpick [(0, .ref p), (1, .int b0)] [0, 1] = _) (t_x9_returnBlanket_j28 X hl0 hr hnm E)
  · rw [if_pos c6] at E
    refine r_iconst X (v := 1) dX9_returnBlanket_9 (by decide) ?_
    refine r_goto X 28 dX9_returnBlanket_10 (by decide) ?_
    exact r_pick (by rfl : lpick [(0, .ref p), (1, .int b0)] [0, 1] = _) (t_x9_returnBlanket_j28 X hl0 hr hnm E)
theorem t_x9_returnBlanket {l : Launch} {G : GG} {p : Nat} {b0 : Int32} {g : AH} {r : Int32} {g1 : AH} (E : x9_returnBlanket p b0 g = some (r, g1)) : Ct l G yX9_returnBlanket cX9_returnBlanket 2 (some .int) ⟨4, 0, 0, 129⟩ [.ref p, .int b0] g (some (.int r)) g1 :=
  ct_of (L0 := [(0, .ref p), (1, .int b0)]) y_X9_returnBlanket rfl (Nat.le_of_ble_eq_true rfl) fun M hl0 X hr hnm => t_x9_returnBlanket_b X hl0 hr hnm E
set_option maxHeartbeats 4000000 in
set_option maxRecDepth 100000 in
theorem t_x9_exchange_b {l : Launch} {G : GG} {M : MC} (X : CX M G cX9_exchange 4 RX9 ⟨2, 0, 0, 83⟩) (hl0 : M.2.1 = l) (hr : (mM M).sig.returnType = none) (hnm : (mM M).name = yX9_exchange.name) {p : Nat} {b0 : Int32} {b1 : Int32} {g : AH} {r : Unit} {g1 : AH} (E : x9_exchange p b0 b1 g = some (r, g1)) : WW M G 4 (RQ M G none g1 0 0) 0 0 g 0 [(0, .ref p), (1, .int b0), (2, .int b1)] [] := by
  unfold x9_exchange at E
  refine r_aload_n X 0 dX9_exchange_0 rfl rfl ?_
  refine r_iload_n X 1 dX9_exchange_1 rfl rfl ?_
  refine r_iconst X (v := 5) dX9_exchange_2 (by decide) ?_
  obtain ⟨u4, e5, E⟩ := gb_some E
  obtain ⟨r1, g2, e3, E⟩ := cb_some E
  refine r_callV0 X hl0 (ci := 9) dX9_exchange_3 y_X9_get m_X9_64 rfl rfl e5 (t_x9_get (l := l) (G := G) e3) rfl rfl (Nat.le_of_ble_eq_true rfl) (by decide) ?_
  refine r_istore_n X 3 (L1 := [(3, .int r1), (0, .ref p), (1, .int b0), (2, .int b1)]) dX9_exchange_6 rfl (by decide) rfl ?_
  refine r_aload_n X 0 dX9_exchange_7 rfl rfl ?_
  refine r_iload_n X 1 dX9_exchange_8 rfl rfl ?_
  refine r_iconst X (v := 5) dX9_exchange_9 (by decide) ?_
  refine r_aload_n X 0 dX9_exchange_10 rfl rfl ?_
  refine r_iload_n X 2 dX9_exchange_11 rfl rfl ?_
  refine r_iconst X (v := 5) dX9_exchange_12 (by decide) ?_
  obtain ⟨u9, e10, E⟩ := gb_some E
  obtain ⟨r6, g7, e8, E⟩ := cb_some E
  refine r_callV0 X hl0 (ci := 9) dX9_exchange_13 y_X9_get m_X9_64 rfl rfl e10 (t_x9_get (l := l) (G := G) e8) rfl rfl (Nat.le_of_ble_eq_true rfl) (by decide) ?_
  obtain ⟨u14, e15, E⟩ := gb_some E
  obtain ⟨r11, g12, e13, E⟩ := cb_some E
  refine r_callV0 X hl0 (ci := 9) dX9_exchange_16 y_X9_set m_X9_54 rfl rfl e15 (t_x9_set (l := l) (G := G) e13) rfl rfl (Nat.le_of_ble_eq_true rfl) (by decide) ?_
  refine r_aload_n X 0 dX9_exchange_19 rfl rfl ?_
  refine r_iload_n X 2 dX9_exchange_20 rfl rfl ?_
  refine r_iconst X (v := 5) dX9_exchange_21 (by decide) ?_
  refine r_iload_n X 3 dX9_exchange_22 rfl rfl ?_
  obtain ⟨u19, e20, E⟩ := gb_some E
  obtain ⟨r16, g17, e18, E⟩ := cb_some E
  refine r_callV0 X hl0 (ci := 9) dX9_exchange_23 y_X9_set m_X9_54 rfl rfl e20 (t_x9_set (l := l) (G := G) e18) rfl rfl (Nat.le_of_ble_eq_true rfl) (by decide) ?_
  cases E
  exact r_vret X hr dX9_exchange_26 (by decide) (by decide)
theorem t_x9_exchange {l : Launch} {G : GG} {p : Nat} {b0 : Int32} {b1 : Int32} {g : AH} {r : Unit} {g1 : AH} (E : x9_exchange p b0 b1 g = some (r, g1)) : Ct l G yX9_exchange cX9_exchange 4 none ⟨2, 0, 0, 83⟩ [.ref p, .int b0, .int b1] g none g1 :=
  ct_of (L0 := [(0, .ref p), (1, .int b0), (2, .int b1)]) y_X9_exchange rfl (Nat.le_of_ble_eq_true rfl) fun M hl0 X hr hnm => t_x9_exchange_b X hl0 hr hnm E
set_option maxHeartbeats 4000000 in
set_option maxRecDepth 100000 in
theorem t_x9_swapBlankets_j21 {l : Launch} {G : GG} {M : MC} (X : CX M G cX9_swapBlankets 3 RX9 ⟨11, 0, 0, 278⟩) (hl0 : M.2.1 = l) (hr : (mM M).sig.returnType = (some .int)) (hnm : (mM M).name = yX9_swapBlankets.name) {a0 : Nat} {g : AH} {r : Int32} {g1 : AH} (E : x9_swapBlankets_j21 a0 g = some (r, g1)) : WW M G 3 (RQ M G (some (.int r)) g1 0 0) 0 0 g 21 [(0, .ref a0)] [] := by
  unfold x9_swapBlankets_j21 at E
  refine r_aload_n X 0 dX9_swapBlankets_21 rfl rfl ?_
  refine r_iconst X (v := 1) dX9_swapBlankets_22 (by decide) ?_
  obtain ⟨u4, e5, E⟩ := gb_some E
  obtain ⟨r1, g2, e3, E⟩ := cb_some E
  refine r_callV0 X hl0 (ci := 9) dX9_swapBlankets_23 y_X9_fail m_X9_141 rfl rfl e5 (t_x9_fail (l := l) (G := G) e3) rfl rfl (Nat.le_of_ble_eq_true rfl) (by decide) ?_
  cases E
  exact r_iret X hr dX9_swapBlankets_26 (by decide) (by decide)
set_option maxHeartbeats 4000000 in
set_option maxRecDepth 100000 in
theorem t_x9_swapBlankets_j47 {l : Launch} {G : GG} {M : MC} (X : CX M G cX9_swapBlankets 3 RX9 ⟨11, 0, 0, 278⟩) (hl0 : M.2.1 = l) (hr : (mM M).sig.returnType = (some .int)) (hnm : (mM M).name = yX9_swapBlankets.name) {a0 : Nat} {g : AH} {r : Int32} {g1 : AH} (E : x9_swapBlankets_j47 a0 g = some (r, g1)) : WW M G 3 (RQ M G (some (.int r)) g1 0 0) 0 0 g 47 [(0, .ref a0)] [] := by
  unfold x9_swapBlankets_j47 at E
  refine r_aload_n X 0 dX9_swapBlankets_47 rfl rfl ?_
  refine r_iconst X (v := 2) dX9_swapBlankets_48 (by decide) ?_
  obtain ⟨u4, e5, E⟩ := gb_some E
  obtain ⟨r1, g2, e3, E⟩ := cb_some E
  refine r_callV0 X hl0 (ci := 9) dX9_swapBlankets_49 y_X9_fail m_X9_141 rfl rfl e5 (t_x9_fail (l := l) (G := G) e3) rfl rfl (Nat.le_of_ble_eq_true rfl) (by decide) ?_
  cases E
  exact r_iret X hr dX9_swapBlankets_52 (by decide) (by decide)
set_option maxHeartbeats 4000000 in
set_option maxRecDepth 100000 in
theorem t_x9_swapBlankets_b {l : Launch} {G : GG} {M : MC} (X : CX M G cX9_swapBlankets 3 RX9 ⟨11, 0, 0, 278⟩) (hl0 : M.2.1 = l) (hr : (mM M).sig.returnType = (some .int)) (hnm : (mM M).name = yX9_swapBlankets.name) {p : Nat} {b0 : Int32} {b1 : Int32} {g : AH} {r : Int32} {g1 : AH} (E : x9_swapBlankets p b0 b1 g = some (r, g1)) : WW M G 3 (RQ M G (some (.int r)) g1 0 0) 0 0 g 0 [(0, .ref p), (1, .int b0), (2, .int b1)] [] := by
  unfold x9_swapBlankets at E
  refine r_aload_n X 0 dX9_swapBlankets_0 rfl rfl ?_
  refine r_iconst X (v := 0) dX9_swapBlankets_1 (by decide) ?_
  obtain ⟨g1, e2, E⟩ := gb_some E
  refine r_put X dX9_swapBlankets_2 f_X9_57 rfl rfl e2 ?_
  refine r_aload_n X 0 dX9_swapBlankets_5 rfl rfl ?_
  refine r_iload_n X 1 dX9_swapBlankets_6 rfl rfl ?_
  obtain ⟨u6, e7, E⟩ := gb_some E
  obtain ⟨r3, g4, e5, E⟩ := cb_some E
  refine r_callV0 X hl0 (ci := 9) dX9_swapBlankets_7 y_X9_isHiker m_X9_324 rfl rfl e7 (t_x9_isHiker (l := l) (G := G) e5) rfl rfl (Nat.le_of_ble_eq_true rfl) (by decide) ?_
  refine r_if_eq X 21 dX9_swapBlankets_10 (by decide) (fun c8 => ?_) (fun c8 => ?_)
  · rw [if_pos c8] at E
    exact r_pick (by rfl : lpick [(0, .ref p), (1, .int b0), (2, .int b1)] [0] = _) (t_x9_swapBlankets_j21 X hl0 hr hnm E)
  · rw [if_neg c8] at E
    refine r_aload_n X 0 dX9_swapBlankets_13 rfl rfl ?_
    refine r_iload_n X 2 dX9_swapBlankets_14 rfl rfl ?_
    obtain ⟨u12, e13, E⟩ := gb_some E
    obtain ⟨r9, g10, e11, E⟩ := cb_some E
    refine r_callV0 X hl0 (ci := 9) dX9_swapBlankets_15 y_X9_isHiker m_X9_324 rfl rfl e13 (t_x9_isHiker (l := l) (G := G) e11) rfl rfl (Nat.le_of_ble_eq_true rfl) (by decide) ?_
    refine r_if_ne X 27 dX9_swapBlankets_18 (by decide) (fun c14 => ?_) (fun c14 => ?_)
    · rw [if_neg c14] at E
      refine r_iload_n X 1 dX9_swapBlankets_27 rfl rfl ?_
      refine r_iload_n X 2 dX9_swapBlankets_28 rfl rfl ?_
      refine r_icmp_eq X 47 dX9_swapBlankets_29 (by decide) (fun c15 => ?_) (fun c15 => ?_)
      · rw [if_pos c15] at E
        exact r_pick (by rfl : lpick [(0, .ref p), (1, .int b0), (2, .int b1)] [0] = _) (t_x9_swapBlankets_j47 X hl0 hr hnm E)
      · rw [if_neg c15] at E
        refine r_aload_n X 0 dX9_swapBlankets_32 rfl rfl ?_
        refine r_iload_n X 1 dX9_swapBlankets_33 rfl rfl ?_
        refine r_iconst X (v := 5) dX9_swapBlankets_34 (by decide) ?_
        obtain ⟨u19, e20, E⟩ := gb_some E
        obtain ⟨r16, g17, e18, E⟩ := cb_some E
        refine r_callV0 X hl0 (ci := 9) dX9_swapBlankets_35 y_X9_get m_X9_64 rfl rfl e20 (t_x9_get (l := l) (G := G) e18) rfl rfl (Nat.le_of_ble_eq_true rfl) (by decide) ?_
        refine r_aload_n X 0 dX9_swapBlankets_38 rfl rfl ?_
        refine r_iload_n X 2 dX9_swapBlankets_39 rfl rfl ?_
        refine r_iconst X (v := 5) dX9_swapBlankets_40 (by decide) ?_
        obtain ⟨u24, e25, E⟩ := gb_some E
        obtain ⟨r21, g22, e23, E⟩ := cb_some E
        refine r_callV0 X hl0 (ci := 9) dX9_swapBlankets_41 y_X9_get m_X9_64 rfl rfl e25 (t_x9_get (l := l) (G := G) e23) rfl rfl (Nat.le_of_ble_eq_true rfl) (by decide) ?_
        refine r_icmp_ne X 53 dX9_swapBlankets_44 (by decide) (fun c26 => ?_) (fun c26 => ?_)
        · rw [if_neg c26] at E
          refine r_aload_n X 0 dX9_swapBlankets_53 rfl rfl ?_
          obtain ⟨u30, e31, E⟩ := gb_some E
          obtain ⟨r27, g28, e29, E⟩ := cb_some E
          refine r_callV0 X hl0 (ci := 9) dX9_swapBlankets_54 y_X9_record m_X9_413 rfl rfl e31 (t_x9_record (l := l) (G := G) e29) rfl rfl (Nat.le_of_ble_eq_true rfl) (by decide) ?_
          refine r_aload_n X 0 dX9_swapBlankets_57 rfl rfl ?_
          refine r_iload_n X 1 dX9_swapBlankets_58 rfl rfl ?_
          refine r_iload_n X 2 dX9_swapBlankets_59 rfl rfl ?_
          obtain ⟨u35, e36, E⟩ := gb_some E
          obtain ⟨r32, g33, e34, E⟩ := cb_some E
          refine r_callV0 X hl0 (ci := 9) dX9_swapBlankets_60 y_X9_exchange m_X9_366 rfl rfl e36 (t_x9_exchange (l := l) (G := G) e34) rfl rfl (Nat.le_of_ble_eq_true rfl) (by decide) ?_
          refine r_aload_n X 0 dX9_swapBlankets_63 rfl rfl ?_
          refine r_iconst X (v := 0) dX9_swapBlankets_64 (by decide) ?_
          obtain ⟨u40, e41, E⟩ := gb_some E
          obtain ⟨r37, g38, e39, E⟩ := cb_some E
          refine r_callV0 X hl0 (ci := 9) dX9_swapBlankets_65 y_X9_countDeed m_X9_318 rfl rfl e41 (t_x9_countDeed (l := l) (G := G) e39) rfl rfl (Nat.le_of_ble_eq_true rfl) (by decide) ?_
          cases E
          exact r_iret X hr dX9_swapBlankets_68 (by decide) (by decide)
        · rw [if_pos c26] at E
          exact r_pick (by rfl : lpick [(0, .ref p), (1, .int b0), (2, .int b1)] [0] = _) (t_x9_swapBlankets_j47 X hl0 hr hnm E)
    · rw [if_pos c14] at E
      exact r_pick (by rfl : lpick [(0, .ref p), (1, .int b0), (2, .int b1)] [0] = _) (t_x9_swapBlankets_j21 X hl0 hr hnm E)
theorem t_x9_swapBlankets {l : Launch} {G : GG} {p : Nat} {b0 : Int32} {b1 : Int32} {g : AH} {r : Int32} {g1 : AH} (E : x9_swapBlankets p b0 b1 g = some (r, g1)) : Ct l G yX9_swapBlankets cX9_swapBlankets 3 (some .int) ⟨11, 0, 0, 278⟩ [.ref p, .int b0, .int b1] g (some (.int r)) g1 :=
  ct_of (L0 := [(0, .ref p), (1, .int b0), (2, .int b1)]) y_X9_swapBlankets rfl (Nat.le_of_ble_eq_true rfl) fun M hl0 X hr hnm => t_x9_swapBlankets_b X hl0 hr hnm E
set_option maxHeartbeats 4000000 in
set_option maxRecDepth 100000 in
theorem t_x9_lieDown_j35 {l : Launch} {G : GG} {M : MC} (X : CX M G cX9_lieDown 4 RX9 ⟨9, 0, 0, 234⟩) (hl0 : M.2.1 = l) (hr : (mM M).sig.returnType = (some .int)) (hnm : (mM M).name = yX9_lieDown.name) {a0 : Nat} {a1 : Int32} {a2 : Int32} {s0 : Int32} {s1 : Nat} {g : AH} {r : Int32} {g1 : AH} (E : x9_lieDown_j35 a0 a1 a2 s0 s1 g = some (r, g1)) : WW M G 4 (RQ M G (some (.int r)) g1 0 0) 0 0 g 35 [(0, .ref a0), (1, .int a1), (2, .int a2)] [.int s0, .ref s1] := by
  unfold x9_lieDown_j35 at E
  obtain ⟨g1, e2, E⟩ := gb_some E
  refine r_put X dX9_lieDown_35 f_X9_57 rfl rfl e2 ?_
  refine r_aload_n X 0 dX9_lieDown_38 rfl rfl ?_
  obtain ⟨x3, e4, E⟩ := gb_some E
  refine r_getI X dX9_lieDown_39 f_X9_57 e4 ?_
  refine r_if_le X 47 dX9_lieDown_42 (by decide) (fun c5 => ?_) (fun c5 => ?_)
  · rw [if_pos c5] at E
    refine r_aload_n X 0 dX9_lieDown_47 rfl rfl ?_
    refine r_iload_n X 1 dX9_lieDown_48 rfl rfl ?_
    refine r_iconst X (v := 4) dX9_lieDown_49 (by decide) ?_
    refine r_iload_n X 2 dX9_lieDown_50 rfl rfl ?_
    obtain ⟨u9, e10, E⟩ := gb_some E
    obtain ⟨r6, g7, e8, E⟩ := cb_some E
    refine r_callV0 X hl0 (ci := 9) dX9_lieDown_51 y_X9_change m_X9_416 rfl rfl e10 (t_x9_change (l := l) (G := G) e8) rfl rfl (Nat.le_of_ble_eq_true rfl) (by decide) ?_
    refine r_istore_n X 3 (L1 := [(3, .int r6), (0, .ref a0), (1, .int a1), (2, .int a2)]) dX9_lieDown_54 rfl (by decide) rfl ?_
    refine r_aload_n X 0 dX9_lieDown_55 rfl rfl ?_
    refine r_iload_n X 2 dX9_lieDown_56 rfl rfl ?_
    obtain ⟨u14, e15, E⟩ := gb_some E
    obtain ⟨r11, g12, e13, E⟩ := cb_some E
    refine r_callV0 X hl0 (ci := 9) dX9_lieDown_57 y_X9_noise m_X9_102 rfl rfl e15 (t_x9_noise (l := l) (G := G) e13) rfl rfl (Nat.le_of_ble_eq_true rfl) (by decide) ?_
    cases E
    exact r_iret X hr dX9_lieDown_60 (by decide) (by decide)
  · rw [if_neg c5] at E
    refine r_iconst X (v := 0) dX9_lieDown_45 (by decide) ?_
    cases E
    exact r_iret X hr dX9_lieDown_46 (by decide) (by decide)
set_option maxHeartbeats 4000000 in
set_option maxRecDepth 100000 in
theorem t_x9_lieDown_j17 {l : Launch} {G : GG} {M : MC} (X : CX M G cX9_lieDown 4 RX9 ⟨9, 0, 0, 234⟩) (hl0 : M.2.1 = l) (hr : (mM M).sig.returnType = (some .int)) (hnm : (mM M).name = yX9_lieDown.name) {a0 : Nat} {a1 : Int32} {a2 : Int32} {s0 : Nat} {g : AH} {r : Int32} {g1 : AH} (E : x9_lieDown_j17 a0 a1 a2 s0 g = some (r, g1)) : WW M G 4 (RQ M G (some (.int r)) g1 0 0) 0 0 g 17 [(0, .ref a0), (1, .int a1), (2, .int a2)] [.ref s0] := by
  unfold x9_lieDown_j17 at E
  refine r_iconst X (v := 1) dX9_lieDown_17 (by decide) ?_
  refine r_goto X 35 dX9_lieDown_18 (by decide) ?_
  exact r_pick (by rfl : lpick [(0, .ref a0), (1, .int a1), (2, .int a2)] [0, 1, 2] = _) (t_x9_lieDown_j35 X hl0 hr hnm E)
set_option maxHeartbeats 4000000 in
set_option maxRecDepth 100000 in
theorem t_x9_lieDown_b {l : Launch} {G : GG} {M : MC} (X : CX M G cX9_lieDown 4 RX9 ⟨9, 0, 0, 234⟩) (hl0 : M.2.1 = l) (hr : (mM M).sig.returnType = (some .int)) (hnm : (mM M).name = yX9_lieDown.name) {p : Nat} {b0 : Int32} {b1 : Int32} {g : AH} {r : Int32} {g1 : AH} (E : x9_lieDown p b0 b1 g = some (r, g1)) : WW M G 4 (RQ M G (some (.int r)) g1 0 0) 0 0 g 0 [(0, .ref p), (1, .int b0), (2, .int b1)] [] := by
  unfold x9_lieDown at E
  refine r_aload_n X 0 dX9_lieDown_0 rfl rfl ?_
  refine r_aload_n X 0 dX9_lieDown_1 rfl rfl ?_
  refine r_iload_n X 1 dX9_lieDown_2 rfl rfl ?_
  obtain ⟨u4, e5, E⟩ := gb_some E
  obtain ⟨r1, g2, e3, E⟩ := cb_some E
  refine r_callV0 X hl0 (ci := 9) dX9_lieDown_3 y_X9_isHiker m_X9_324 rfl rfl e5 (t_x9_isHiker (l := l) (G := G) e3) rfl rfl (Nat.le_of_ble_eq_true rfl) (by decide) ?_
  refine r_if_eq X 17 dX9_lieDown_6 (by decide) (fun c6 => ?_) (fun c6 => ?_)
  · rw [if_pos c6] at E
    exact r_pick (by rfl : lpick [(0, .ref p), (1, .int b0), (2, .int b1)] [0, 1, 2] = _) (t_x9_lieDown_j17 X hl0 hr hnm E)
  · rw [if_neg c6] at E
    refine r_aload_n X 0 dX9_lieDown_9 rfl rfl ?_
    refine r_iload_n X 2 dX9_lieDown_10 rfl rfl ?_
    obtain ⟨u10, e11, E⟩ := gb_some E
    obtain ⟨r7, g8, e9, E⟩ := cb_some E
    refine r_callV0 X hl0 (ci := 9) dX9_lieDown_11 y_X9_isBunk m_X9_72 rfl rfl e11 (t_x9_isBunk (l := l) (G := G) e9) rfl rfl (Nat.le_of_ble_eq_true rfl) (by decide) ?_
    refine r_if_ne X 21 dX9_lieDown_14 (by decide) (fun c12 => ?_) (fun c12 => ?_)
    · rw [if_neg c12] at E
      refine r_aload_n X 0 dX9_lieDown_21 rfl rfl ?_
      refine r_iload_n X 2 dX9_lieDown_22 rfl rfl ?_
      obtain ⟨u16, e17, E⟩ := gb_some E
      obtain ⟨r13, g14, e15, E⟩ := cb_some E
      refine r_callV0 X hl0 (ci := 9) dX9_lieDown_23 y_X9_inBunk m_X9_83 rfl rfl e17 (t_x9_inBunk (l := l) (G := G) e15) rfl rfl (Nat.le_of_ble_eq_true rfl) (by decide) ?_
      refine r_iconst X (v := (-1)) dX9_lieDown_26 (by decide) ?_
      refine r_icmp_ne X 34 dX9_lieDown_27 (by decide) (fun c18 => ?_) (fun c18 => ?_)
      · rw [if_neg c18] at E
        refine r_iconst X (v := 2) dX9_lieDown_34 (by decide) ?_
        exact r_pick (by rfl : lpick [(0, .ref p), (1, .int b0), (2, .int b1)] [0, 1, 2] = _) (t_x9_lieDown_j35 X hl0 hr hnm E)
      · rw [if_pos c18] at E
        refine r_iconst X (v := 0) dX9_lieDown_30 (by decide) ?_
        refine r_goto X 35 dX9_lieDown_31 (by decide) ?_
        exact r_pick (by rfl : lpick [(0, .ref p), (1, .int b0), (2, .int b1)] [0, 1, 2] = _) (t_x9_lieDown_j35 X hl0 hr hnm E)
    · rw [if_pos c12] at E
      exact r_pick (by rfl : lpick [(0, .ref p), (1, .int b0), (2, .int b1)] [0, 1, 2] = _) (t_x9_lieDown_j17 X hl0 hr hnm E)
theorem t_x9_lieDown {l : Launch} {G : GG} {p : Nat} {b0 : Int32} {b1 : Int32} {g : AH} {r : Int32} {g1 : AH} (E : x9_lieDown p b0 b1 g = some (r, g1)) : Ct l G yX9_lieDown cX9_lieDown 4 (some .int) ⟨9, 0, 0, 234⟩ [.ref p, .int b0, .int b1] g (some (.int r)) g1 :=
  ct_of (L0 := [(0, .ref p), (1, .int b0), (2, .int b1)]) y_X9_lieDown rfl (Nat.le_of_ble_eq_true rfl) fun M hl0 X hr hnm => t_x9_lieDown_b X hl0 hr hnm E
set_option maxHeartbeats 4000000 in
set_option maxRecDepth 100000 in
theorem t_x9_getUp_j28 {l : Launch} {G : GG} {M : MC} (X : CX M G cX9_getUp 2 RX9 ⟨4, 0, 0, 129⟩) (hl0 : M.2.1 = l) (hr : (mM M).sig.returnType = (some .int)) (hnm : (mM M).name = yX9_getUp.name) {a0 : Nat} {a1 : Int32} {s0 : Int32} {s1 : Nat} {g : AH} {r : Int32} {g1 : AH} (E : x9_getUp_j28 a0 a1 s0 s1 g = some (r, g1)) : WW M G 2 (RQ M G (some (.int r)) g1 0 0) 0 0 g 28 [(0, .ref a0), (1, .int a1)] [.int s0, .ref s1] := by
  unfold x9_getUp_j28 at E
  obtain ⟨g1, e2, E⟩ := gb_some E
  refine r_put X dX9_getUp_28 f_X9_57 rfl rfl e2 ?_
  refine r_aload_n X 0 dX9_getUp_31 rfl rfl ?_
  obtain ⟨x3, e4, E⟩ := gb_some E
  refine r_getI X dX9_getUp_32 f_X9_57 e4 ?_
  refine r_if_le X 42 dX9_getUp_35 (by decide) (fun c5 => ?_) (fun c5 => ?_)
  · rw [if_pos c5] at E
    refine r_aload_n X 0 dX9_getUp_42 rfl rfl ?_
    refine r_iload_n X 1 dX9_getUp_43 rfl rfl ?_
    refine r_iconst X (v := 4) dX9_getUp_44 (by decide) ?_
    refine r_iconst X (v := (-1)) dX9_getUp_45 (by decide) ?_
    obtain ⟨u9, e10, E⟩ := gb_some E
    obtain ⟨r6, g7, e8, E⟩ := cb_some E
    refine r_callV0 X hl0 (ci := 9) dX9_getUp_46 y_X9_change m_X9_416 rfl rfl e10 (t_x9_change (l := l) (G := G) e8) rfl rfl (Nat.le_of_ble_eq_true rfl) (by decide) ?_
    cases E
    exact r_iret X hr dX9_getUp_49 (by decide) (by decide)
  · rw [if_neg c5] at E
    refine r_iconst X (v := 0) dX9_getUp_38 (by decide) ?_
    refine r_goto X 49 dX9_getUp_39 (by decide) ?_
    cases E
    exact r_iret X hr dX9_getUp_49 (by decide) (by decide)
set_option maxHeartbeats 4000000 in
set_option maxRecDepth 100000 in
theorem t_x9_getUp_b {l : Launch} {G : GG} {M : MC} (X : CX M G cX9_getUp 2 RX9 ⟨4, 0, 0, 129⟩) (hl0 : M.2.1 = l) (hr : (mM M).sig.returnType = (some .int)) (hnm : (mM M).name = yX9_getUp.name) {p : Nat} {b0 : Int32} {g : AH} {r : Int32} {g1 : AH} (E : x9_getUp p b0 g = some (r, g1)) : WW M G 2 (RQ M G (some (.int r)) g1 0 0) 0 0 g 0 [(0, .ref p), (1, .int b0)] [] := by
  unfold x9_getUp at E
  refine r_aload_n X 0 dX9_getUp_0 rfl rfl ?_
  refine r_aload_n X 0 dX9_getUp_1 rfl rfl ?_
  refine r_iload_n X 1 dX9_getUp_2 rfl rfl ?_
  obtain ⟨u4, e5, E⟩ := gb_some E
  obtain ⟨r1, g2, e3, E⟩ := cb_some E
  refine r_callV0 X hl0 (ci := 9) dX9_getUp_3 y_X9_isHiker m_X9_324 rfl rfl e5 (t_x9_isHiker (l := l) (G := G) e3) rfl rfl (Nat.le_of_ble_eq_true rfl) (by decide) ?_
  refine r_if_ne X 13 dX9_getUp_6 (by decide) (fun c6 => ?_) (fun c6 => ?_)
  · rw [if_neg c6] at E
    refine r_aload_n X 0 dX9_getUp_13 rfl rfl ?_
    refine r_iload_n X 1 dX9_getUp_14 rfl rfl ?_
    refine r_iconst X (v := 4) dX9_getUp_15 (by decide) ?_
    obtain ⟨u10, e11, E⟩ := gb_some E
    obtain ⟨r7, g8, e9, E⟩ := cb_some E
    refine r_callV0 X hl0 (ci := 9) dX9_getUp_16 y_X9_get m_X9_64 rfl rfl e11 (t_x9_get (l := l) (G := G) e9) rfl rfl (Nat.le_of_ble_eq_true rfl) (by decide) ?_
    refine r_iconst X (v := (-1)) dX9_getUp_19 (by decide) ?_
    refine r_icmp_ne X 27 dX9_getUp_20 (by decide) (fun c12 => ?_) (fun c12 => ?_)
    · rw [if_neg c12] at E
      refine r_iconst X (v := 0) dX9_getUp_27 (by decide) ?_
      exact r_pick (by rfl : lpick [(0, .ref p), (1, .int b0)] [0, 1] = _) (t_x9_getUp_j28 X hl0 hr hnm E)
    · rw [if_pos c12] at E
      refine r_iconst X (v := 2) dX9_getUp_23 (by decide) ?_
      refine r_goto X 28 dX9_getUp_24 (by decide) ?_
      exact r_pick (by rfl : lpick [(0, .ref p), (1, .int b0)] [0, 1] = _) (t_x9_getUp_j28 X hl0 hr hnm E)
  · rw [if_pos c6] at E
    refine r_iconst X (v := 1) dX9_getUp_9 (by decide) ?_
    refine r_goto X 28 dX9_getUp_10 (by decide) ?_
    exact r_pick (by rfl : lpick [(0, .ref p), (1, .int b0)] [0, 1] = _) (t_x9_getUp_j28 X hl0 hr hnm E)
theorem t_x9_getUp {l : Launch} {G : GG} {p : Nat} {b0 : Int32} {g : AH} {r : Int32} {g1 : AH} (E : x9_getUp p b0 g = some (r, g1)) : Ct l G yX9_getUp cX9_getUp 2 (some .int) ⟨4, 0, 0, 129⟩ [.ref p, .int b0] g (some (.int r)) g1 :=
  ct_of (L0 := [(0, .ref p), (1, .int b0)]) y_X9_getUp rfl (Nat.le_of_ble_eq_true rfl) fun M hl0 X hr hnm => t_x9_getUp_b X hl0 hr hnm E
set_option maxHeartbeats 4000000 in
set_option maxRecDepth 100000 in
theorem t_x9_setRate_b {l : Launch} {G : GG} {M : MC} (X : CX M G cX9_setRate 3 RX9 ⟨3, 0, 0, 105⟩) (hl0 : M.2.1 = l) (hr : (mM M).sig.returnType = (some .int)) (hnm : (mM M).name = yX9_setRate.name) {p : Nat} {b0 : Int32} {g : AH} {r : Int32} {g1 : AH} (E : x9_setRate p b0 g = some (r, g1)) : WW M G 3 (RQ M G (some (.int r)) g1 0 0) 0 0 g 0 [(0, .ref p), (1, .int b0)] [] := by
  unfold x9_setRate at E
  refine r_aload_n X 0 dX9_setRate_0 rfl rfl ?_
  refine r_iconst X (v := 0) dX9_setRate_1 (by decide) ?_
  obtain ⟨g1, e2, E⟩ := gb_some E
  refine r_put X dX9_setRate_2 f_X9_57 rfl rfl e2 ?_
  refine r_iload_n X 1 dX9_setRate_5 rfl rfl ?_
  refine r_iconst X (v := 0) dX9_setRate_6 (by decide) ?_
  refine r_iconst X (v := 3) dX9_setRate_7 (by decide) ?_
  obtain ⟨r3, g4, e5, E⟩ := cb_some E
  refine r_callS0 X hl0 dX9_setRate_8 y_X9_isBetween m_X9_68 (t_x9_isBetween (l := l) (G := G) e5) rfl rfl (Nat.le_of_ble_eq_true rfl) (by decide) ?_
  refine r_if_ne X 20 dX9_setRate_11 (by decide) (fun c6 => ?_) (fun c6 => ?_)
  · rw [if_neg c6] at E
    refine r_aload_n X 0 dX9_setRate_20 rfl rfl ?_
    obtain ⟨u10, e11, E⟩ := gb_some E
    obtain ⟨r7, g8, e9, E⟩ := cb_some E
    refine r_callV0 X hl0 (ci := 9) dX9_setRate_21 y_X9_record m_X9_413 rfl rfl e11 (t_x9_record (l := l) (G := G) e9) rfl rfl (Nat.le_of_ble_eq_true rfl) (by decide) ?_
    refine r_aload_n X 0 dX9_setRate_24 rfl rfl ?_
    obtain ⟨x12, e13, E⟩ := gb_some E
    refine r_getR X dX9_setRate_25 f_X9_7 e13 ?_
    refine r_iconst X (v := 1) dX9_setRate_28 (by decide) ?_
    obtain ⟨x14, e15, E⟩ := gb_some E
    refine r_iald X dX9_setRate_29 e15 ?_
    refine r_istore_n X 2 (L1 := [(2, .int x14), (0, .ref p), (1, .int b0)]) dX9_setRate_30 rfl (by decide) rfl ?_
    refine r_aload_n X 0 dX9_setRate_31 rfl rfl ?_
    obtain ⟨x16, e17, E⟩ := gb_some E
    refine r_getR X dX9_setRate_32 f_X9_7 e17 ?_
    refine r_iconst X (v := 1) dX9_setRate_35 (by decide) ?_
    refine r_iload_n X 1 dX9_setRate_36 rfl rfl ?_
    obtain ⟨g18, e19, E⟩ := gb_some E
    refine r_iast X dX9_setRate_37 e19 ?_
    refine r_iload_n X 2 dX9_setRate_38 rfl rfl ?_
    cases E
    exact r_iret X hr dX9_setRate_39 (by decide) (by decide)
  · rw [if_pos c6] at E
    refine r_aload_n X 0 dX9_setRate_14 rfl rfl ?_
    refine r_iconst X (v := 1) dX9_setRate_15 (by decide) ?_
    obtain ⟨u23, e24, E⟩ := gb_some E
    obtain ⟨r20, g21, e22, E⟩ := cb_some E
    refine r_callV0 X hl0 (ci := 9) dX9_setRate_16 y_X9_fail m_X9_141 rfl rfl e24 (t_x9_fail (l := l) (G := G) e22) rfl rfl (Nat.le_of_ble_eq_true rfl) (by decide) ?_
    cases E
    exact r_iret X hr dX9_setRate_19 (by decide) (by decide)
theorem t_x9_setRate {l : Launch} {G : GG} {p : Nat} {b0 : Int32} {g : AH} {r : Int32} {g1 : AH} (E : x9_setRate p b0 g = some (r, g1)) : Ct l G yX9_setRate cX9_setRate 3 (some .int) ⟨3, 0, 0, 105⟩ [.ref p, .int b0] g (some (.int r)) g1 :=
  ct_of (L0 := [(0, .ref p), (1, .int b0)]) y_X9_setRate rfl (Nat.le_of_ble_eq_true rfl) fun M hl0 X hr hnm => t_x9_setRate_b X hl0 hr hnm E
set_option maxHeartbeats 4000000 in
set_option maxRecDepth 100000 in
theorem t_x9_fetchLogs_j33 {l : Launch} {G : GG} {M : MC} (X : CX M G cX9_fetchLogs 2 RX9 ⟨3, 0, 0, 105⟩) (hl0 : M.2.1 = l) (hr : (mM M).sig.returnType = (some .int)) (hnm : (mM M).name = yX9_fetchLogs.name) {a0 : Nat} {a1 : Int32} {s0 : Int32} {s1 : Nat} {g : AH} {r : Int32} {g1 : AH} (E : x9_fetchLogs_j33 a0 a1 s0 s1 g = some (r, g1)) : WW M G 2 (RQ M G (some (.int r)) g1 0 0) 0 0 g 33 [(0, .ref a0), (1, .int a1)] [.int s0, .ref s1] := by
  unfold x9_fetchLogs_j33 at E
  obtain ⟨g1, e2, E⟩ := gb_some E
  refine r_put X dX9_fetchLogs_33 f_X9_57 rfl rfl e2 ?_
  refine r_aload_n X 0 dX9_fetchLogs_36 rfl rfl ?_
  obtain ⟨x3, e4, E⟩ := gb_some E
  refine r_getI X dX9_fetchLogs_37 f_X9_57 e4 ?_
  refine r_if_le X 45 dX9_fetchLogs_40 (by decide) (fun c5 => ?_) (fun c5 => ?_)
  · rw [if_pos c5] at E
    refine r_aload_n X 0 dX9_fetchLogs_45 rfl rfl ?_
    obtain ⟨u9, e10, E⟩ := gb_some E
    obtain ⟨r6, g7, e8, E⟩ := cb_some E
    refine r_callV0 X hl0 (ci := 9) dX9_fetchLogs_46 y_X9_record m_X9_413 rfl rfl e10 (t_x9_record (l := l) (G := G) e8) rfl rfl (Nat.le_of_ble_eq_true rfl) (by decide) ?_
    refine r_aload_n X 0 dX9_fetchLogs_49 rfl rfl ?_
    obtain ⟨x11, e12, E⟩ := gb_some E
    refine r_getR X dX9_fetchLogs_50 f_X9_7 e12 ?_
    refine r_iconst X (v := 0) dX9_fetchLogs_53 (by decide) ?_
    refine r_dup2 X dX9_fetchLogs_54 rfl rfl ?_
    obtain ⟨x13, e14, E⟩ := gb_some E
    refine r_iald X dX9_fetchLogs_55 e14 ?_
    refine r_iload_n X 1 dX9_fetchLogs_56 rfl rfl ?_
    refine r_iadd X dX9_fetchLogs_57 ?_
    obtain ⟨g15, e16, E⟩ := gb_some E
    refine r_iast X dX9_fetchLogs_58 e16 ?_
    refine r_aload_n X 0 dX9_fetchLogs_59 rfl rfl ?_
    obtain ⟨x17, e18, E⟩ := gb_some E
    refine r_getR X dX9_fetchLogs_60 f_X9_7 e18 ?_
    refine r_bipush X (v := 8) dX9_fetchLogs_63 (by decide) ?_
    refine r_dup2 X dX9_fetchLogs_65 rfl rfl ?_
    obtain ⟨x19, e20, E⟩ := gb_some E
    refine r_iald X dX9_fetchLogs_66 e20 ?_
    refine r_iload_n X 1 dX9_fetchLogs_67 rfl rfl ?_
    refine r_iadd X dX9_fetchLogs_68 ?_
    obtain ⟨g21, e22, E⟩ := gb_some E
    refine r_iast X dX9_fetchLogs_69 e22 ?_
    refine r_aload_n X 0 dX9_fetchLogs_70 rfl rfl ?_
    obtain ⟨x23, e24, E⟩ := gb_some E
    refine r_getR X dX9_fetchLogs_71 f_X9_7 e24 ?_
    refine r_iconst X (v := 0) dX9_fetchLogs_74 (by decide) ?_
    obtain ⟨x25, e26, E⟩ := gb_some E
    refine r_iald X dX9_fetchLogs_75 e26 ?_
    cases E
    exact r_iret X hr dX9_fetchLogs_76 (by decide) (by decide)
  · rw [if_neg c5] at E
    refine r_iconst X (v := 0) dX9_fetchLogs_43 (by decide) ?_
    cases E
    exact r_iret X hr dX9_fetchLogs_44 (by decide) (by decide)
set_option maxHeartbeats 4000000 in
set_option maxRecDepth 100000 in
theorem t_x9_fetchLogs_b {l : Launch} {G : GG} {M : MC} (X : CX M G cX9_fetchLogs 2 RX9 ⟨3, 0, 0, 105⟩) (hl0 : M.2.1 = l) (hr : (mM M).sig.returnType = (some .int)) (hnm : (mM M).name = yX9_fetchLogs.name) {p : Nat} {b0 : Int32} {g : AH} {r : Int32} {g1 : AH} (E : x9_fetchLogs p b0 g = some (r, g1)) : WW M G 2 (RQ M G (some (.int r)) g1 0 0) 0 0 g 0 [(0, .ref p), (1, .int b0)] [] := by
  unfold x9_fetchLogs at E
  refine r_aload_n X 0 dX9_fetchLogs_0 rfl rfl ?_
  refine r_iload_n X 1 dX9_fetchLogs_1 rfl rfl ?_
  refine r_iconst X (v := 1) dX9_fetchLogs_2 (by decide) ?_
  refine r_bipush X (v := 50) dX9_fetchLogs_3 (by decide) ?_
  obtain ⟨r1, g2, e3, E⟩ := cb_some E
  refine r_callS0 X hl0 dX9_fetchLogs_5 y_X9_isBetween m_X9_68 (t_x9_isBetween (l := l) (G := G) e3) rfl rfl (Nat.le_of_ble_eq_true rfl) (by decide) ?_
  refine r_if_ne X 15 dX9_fetchLogs_8 (by decide) (fun c4 => ?_) (fun c4 => ?_)
  · rw [if_neg c4] at E
    refine r_aload_n X 0 dX9_fetchLogs_15 rfl rfl ?_
    obtain ⟨x5, e6, E⟩ := gb_some E
    refine r_getR X dX9_fetchLogs_16 f_X9_7 e6 ?_
    refine r_iconst X (v := 0) dX9_fetchLogs_19 (by decide) ?_
    obtain ⟨x7, e8, E⟩ := gb_some E
    refine r_iald X dX9_fetchLogs_20 e8 ?_
    refine r_iload_n X 1 dX9_fetchLogs_21 rfl rfl ?_
    refine r_iadd X dX9_fetchLogs_22 ?_
    refine r_bipush X (v := 99) dX9_fetchLogs_23 (by decide) ?_
    refine r_icmp_le X 32 dX9_fetchLogs_25 (by decide) (fun c9 => ?_) (fun c9 => ?_)
    · rw [if_pos c9] at E
      refine r_iconst X (v := 0) dX9_fetchLogs_32 (by decide) ?_
      exact r_pick (by rfl : lpick [(0, .ref p), (1, .int b0)] [0, 1] = _) (t_x9_fetchLogs_j33 X hl0 hr hnm E)
    · rw [if_neg c9] at E
      refine r_iconst X (v := 2) dX9_fetchLogs_28 (by decide) ?_
      refine r_goto X 33 dX9_fetchLogs_29 (by decide) ?_
      exact r_pick (by rfl : lpick [(0, .ref p), (1, .int b0)] [0, 1] = _) (t_x9_fetchLogs_j33 X hl0 hr hnm E)
  · rw [if_pos c4] at E
    refine r_iconst X (v := 1) dX9_fetchLogs_11 (by decide) ?_
    refine r_goto X 33 dX9_fetchLogs_12 (by decide) ?_
    exact r_pick (by rfl : lpick [(0, .ref p), (1, .int b0)] [0, 1] = _) (t_x9_fetchLogs_j33 X hl0 hr hnm E)
theorem t_x9_fetchLogs {l : Launch} {G : GG} {p : Nat} {b0 : Int32} {g : AH} {r : Int32} {g1 : AH} (E : x9_fetchLogs p b0 g = some (r, g1)) : Ct l G yX9_fetchLogs cX9_fetchLogs 2 (some .int) ⟨3, 0, 0, 105⟩ [.ref p, .int b0] g (some (.int r)) g1 :=
  ct_of (L0 := [(0, .ref p), (1, .int b0)]) y_X9_fetchLogs rfl (Nat.le_of_ble_eq_true rfl) fun M hl0 X hr hnm => t_x9_fetchLogs_b X hl0 hr hnm E
set_option maxHeartbeats 4000000 in
set_option maxRecDepth 100000 in
theorem t_x9_payDebt_j55 {l : Launch} {G : GG} {M : MC} (X : CX M G cX9_payDebt 3 RX9 ⟨3, 0, 0, 106⟩) (hl0 : M.2.1 = l) (hr : (mM M).sig.returnType = (some .int)) (hnm : (mM M).name = yX9_payDebt.name) {a0 : Nat} {g : AH} {r : Int32} {g1 : AH} (E : x9_payDebt_j55 a0 g = some (r, g1)) : WW M G 3 (RQ M G (some (.int r)) g1 0 0) 0 0 g 55 [(0, .ref a0)] [] := by
  unfold x9_payDebt_j55 at E
  refine r_aload_n X 0 dX9_payDebt_55 rfl rfl ?_
  refine r_iconst X (v := 3) dX9_payDebt_56 (by decide) ?_
  obtain ⟨u4, e5, E⟩ := gb_some E
  obtain ⟨r1, g2, e3, E⟩ := cb_some E
  refine r_callV0 X hl0 (ci := 9) dX9_payDebt_57 y_X9_fail m_X9_141 rfl rfl e5 (t_x9_fail (l := l) (G := G) e3) rfl rfl (Nat.le_of_ble_eq_true rfl) (by decide) ?_
  cases E
  exact r_iret X hr dX9_payDebt_60 (by decide) (by decide)
set_option maxHeartbeats 4000000 in
set_option maxRecDepth 100000 in
theorem t_x9_payDebt_b {l : Launch} {G : GG} {M : MC} (X : CX M G cX9_payDebt 3 RX9 ⟨3, 0, 0, 106⟩) (hl0 : M.2.1 = l) (hr : (mM M).sig.returnType = (some .int)) (hnm : (mM M).name = yX9_payDebt.name) {p : Nat} {b0 : Int32} {b1 : Int32} {g : AH} {r : Int32} {g1 : AH} (E : x9_payDebt p b0 b1 g = some (r, g1)) : WW M G 3 (RQ M G (some (.int r)) g1 0 0) 0 0 g 0 [(0, .ref p), (1, .int b0), (2, .int b1)] [] := by
  unfold x9_payDebt at E
  refine r_aload_n X 0 dX9_payDebt_0 rfl rfl ?_
  refine r_iconst X (v := 0) dX9_payDebt_1 (by decide) ?_
  obtain ⟨g1, e2, E⟩ := gb_some E
  refine r_put X dX9_payDebt_2 f_X9_57 rfl rfl e2 ?_
  refine r_aload_n X 0 dX9_payDebt_5 rfl rfl ?_
  refine r_iload_n X 1 dX9_payDebt_6 rfl rfl ?_
  obtain ⟨u6, e7, E⟩ := gb_some E
  obtain ⟨r3, g4, e5, E⟩ := cb_some E
  refine r_callV0 X hl0 (ci := 9) dX9_payDebt_7 y_X9_isHiker m_X9_324 rfl rfl e7 (t_x9_isHiker (l := l) (G := G) e5) rfl rfl (Nat.le_of_ble_eq_true rfl) (by decide) ?_
  refine r_if_ne X 19 dX9_payDebt_10 (by decide) (fun c8 => ?_) (fun c8 => ?_)
  · rw [if_neg c8] at E
    refine r_iload_n X 2 dX9_payDebt_19 rfl rfl ?_
    refine r_iconst X (v := 1) dX9_payDebt_20 (by decide) ?_
    refine r_bipush X (v := 99) dX9_payDebt_21 (by decide) ?_
    obtain ⟨r9, g10, e11, E⟩ := cb_some E
    refine r_callS0 X hl0 dX9_payDebt_23 y_X9_isBetween m_X9_68 (t_x9_isBetween (l := l) (G := G) e11) rfl rfl (Nat.le_of_ble_eq_true rfl) (by decide) ?_
    refine r_if_ne X 35 dX9_payDebt_26 (by decide) (fun c12 => ?_) (fun c12 => ?_)
    · rw [if_neg c12] at E
      refine r_aload_n X 0 dX9_payDebt_35 rfl rfl ?_
      refine r_iload_n X 1 dX9_payDebt_36 rfl rfl ?_
      refine r_iconst X (v := 2) dX9_payDebt_37 (by decide) ?_
      obtain ⟨u16, e17, E⟩ := gb_some E
      obtain ⟨r13, g14, e15, E⟩ := cb_some E
      refine r_callV0 X hl0 (ci := 9) dX9_payDebt_38 y_X9_get m_X9_64 rfl rfl e17 (t_x9_get (l := l) (G := G) e15) rfl rfl (Nat.le_of_ble_eq_true rfl) (by decide) ?_
      refine r_iload_n X 2 dX9_payDebt_41 rfl rfl ?_
      refine r_icmp_lt X 55 dX9_payDebt_42 (by decide) (fun c18 => ?_) (fun c18 => ?_)
      · rw [if_pos c18] at E
        exact r_pick (by rfl : lpick [(0, .ref p), (1, .int b0), (2, .int b1)] [0] = _) (t_x9_payDebt_j55 X hl0 hr hnm E)
      · rw [if_neg c18] at E
        refine r_aload_n X 0 dX9_payDebt_45 rfl rfl ?_
        refine r_iload_n X 1 dX9_payDebt_46 rfl rfl ?_
        refine r_iconst X (v := 3) dX9_payDebt_47 (by decide) ?_
        obtain ⟨u22, e23, E⟩ := gb_some E
        obtain ⟨r19, g20, e21, E⟩ := cb_some E
        refine r_callV0 X hl0 (ci := 9) dX9_payDebt_48 y_X9_get m_X9_64 rfl rfl e23 (t_x9_get (l := l) (G := G) e21) rfl rfl (Nat.le_of_ble_eq_true rfl) (by decide) ?_
        refine r_iload_n X 2 dX9_payDebt_51 rfl rfl ?_
        refine r_icmp_ge X 61 dX9_payDebt_52 (by decide) (fun c24 => ?_) (fun c24 => ?_)
        · rw [if_pos c24] at E
          refine r_aload_n X 0 dX9_payDebt_61 rfl rfl ?_
          obtain ⟨u28, e29, E⟩ := gb_some E
          obtain ⟨r25, g26, e27, E⟩ := cb_some E
          refine r_callV0 X hl0 (ci := 9) dX9_payDebt_62 y_X9_record m_X9_413 rfl rfl e29 (t_x9_record (l := l) (G := G) e27) rfl rfl (Nat.le_of_ble_eq_true rfl) (by decide) ?_
          refine r_aload_n X 0 dX9_payDebt_65 rfl rfl ?_
          refine r_iload_n X 1 dX9_payDebt_66 rfl rfl ?_
          refine r_iconst X (v := 2) dX9_payDebt_67 (by decide) ?_
          refine r_iload_n X 2 dX9_payDebt_68 rfl rfl ?_
          refine r_ineg X dX9_payDebt_69 ?_
          obtain ⟨u33, e34, E⟩ := gb_some E
          obtain ⟨r30, g31, e32, E⟩ := cb_some E
          refine r_callV0 X hl0 (ci := 9) dX9_payDebt_70 y_X9_increase m_X9_113 rfl rfl e34 (t_x9_increase (l := l) (G := G) e32) rfl rfl (Nat.le_of_ble_eq_true rfl) (by decide) ?_
          refine r_aload_n X 0 dX9_payDebt_73 rfl rfl ?_
          refine r_iload_n X 1 dX9_payDebt_74 rfl rfl ?_
          refine r_iconst X (v := 3) dX9_payDebt_75 (by decide) ?_
          refine r_iload_n X 2 dX9_payDebt_76 rfl rfl ?_
          refine r_ineg X dX9_payDebt_77 ?_
          obtain ⟨u38, e39, E⟩ := gb_some E
          obtain ⟨r35, g36, e37, E⟩ := cb_some E
          refine r_callV0 X hl0 (ci := 9) dX9_payDebt_78 y_X9_increase m_X9_113 rfl rfl e39 (t_x9_increase (l := l) (G := G) e37) rfl rfl (Nat.le_of_ble_eq_true rfl) (by decide) ?_
          refine r_aload_n X 0 dX9_payDebt_81 rfl rfl ?_
          obtain ⟨x40, e41, E⟩ := gb_some E
          refine r_getR X dX9_payDebt_82 f_X9_7 e41 ?_
          refine r_bipush X (v := 6) dX9_payDebt_85 (by decide) ?_
          refine r_dup2 X dX9_payDebt_87 rfl rfl ?_
          obtain ⟨x42, e43, E⟩ := gb_some E
          refine r_iald X dX9_payDebt_88 e43 ?_
          refine r_iload_n X 2 dX9_payDebt_89 rfl rfl ?_
          refine r_iadd X dX9_payDebt_90 ?_
          obtain ⟨g44, e45, E⟩ := gb_some E
          refine r_iast X dX9_payDebt_91 e45 ?_
          refine r_aload_n X 0 dX9_payDebt_92 rfl rfl ?_
          refine r_iload_n X 1 dX9_payDebt_93 rfl rfl ?_
          refine r_iconst X (v := 3) dX9_payDebt_94 (by decide) ?_
          obtain ⟨u49, e50, E⟩ := gb_some E
          obtain ⟨r46, g47, e48, E⟩ := cb_some E
          refine r_callV0 X hl0 (ci := 9) dX9_payDebt_95 y_X9_get m_X9_64 rfl rfl e50 (t_x9_get (l := l) (G := G) e48) rfl rfl (Nat.le_of_ble_eq_true rfl) (by decide) ?_
          cases E
          exact r_iret X hr dX9_payDebt_98 (by decide) (by decide)
        · rw [if_neg c24] at E
          exact r_pick (by rfl : lpick [(0, .ref p), (1, .int b0), (2, .int b1)] [0] = _) (t_x9_payDebt_j55 X hl0 hr hnm E)
    · rw [if_pos c12] at E
      refine r_aload_n X 0 dX9_payDebt_29 rfl rfl ?_
      refine r_iconst X (v := 2) dX9_payDebt_30 (by decide) ?_
      obtain ⟨u54, e55, E⟩ := gb_some E
      obtain ⟨r51, g52, e53, E⟩ := cb_some E
      refine r_callV0 X hl0 (ci := 9) dX9_payDebt_31 y_X9_fail m_X9_141 rfl rfl e55 (t_x9_fail (l := l) (G := G) e53) rfl rfl (Nat.le_of_ble_eq_true rfl) (by decide) ?_
      cases E
      exact r_iret X hr dX9_payDebt_34 (by decide) (by decide)
  · rw [if_pos c8] at E
    refine r_aload_n X 0 dX9_payDebt_13 rfl rfl ?_
    refine r_iconst X (v := 1) dX9_payDebt_14 (by decide) ?_
    obtain ⟨u59, e60, E⟩ := gb_some E
    obtain ⟨r56, g57, e58, E⟩ := cb_some E
    refine r_callV0 X hl0 (ci := 9) dX9_payDebt_15 y_X9_fail m_X9_141 rfl rfl e60 (t_x9_fail (l := l) (G := G) e58) rfl rfl (Nat.le_of_ble_eq_true rfl) (by decide) ?_
    cases E
    exact r_iret X hr dX9_payDebt_18 (by decide) (by decide)
theorem t_x9_payDebt {l : Launch} {G : GG} {p : Nat} {b0 : Int32} {b1 : Int32} {g : AH} {r : Int32} {g1 : AH} (E : x9_payDebt p b0 b1 g = some (r, g1)) : Ct l G yX9_payDebt cX9_payDebt 3 (some .int) ⟨3, 0, 0, 106⟩ [.ref p, .int b0, .int b1] g (some (.int r)) g1 :=
  ct_of (L0 := [(0, .ref p), (1, .int b0), (2, .int b1)]) y_X9_payDebt rfl (Nat.le_of_ble_eq_true rfl) fun M hl0 X hr hnm => t_x9_payDebt_b X hl0 hr hnm E
set_option maxHeartbeats 4000000 in
set_option maxRecDepth 100000 in
theorem t_x9_passHours_j34 {l : Launch} {G : GG} {M : MC} (X : CX M G cX9_passHours 3 RX9 ⟨12, 0, 0, 298⟩) (hl0 : M.2.1 = l) (hr : (mM M).sig.returnType = (some .int)) (hnm : (mM M).name = yX9_passHours.name) {a0 : Nat} {a1 : Int32} {s0 : Int32} {s1 : Nat} {g : AH} {r : Int32} {g1 : AH} (E : x9_passHours_j34 a0 a1 s0 s1 g = some (r, g1)) : WW M G 3 (RQ M G (some (.int r)) g1 0 0) 0 0 g 34 [(0, .ref a0), (1, .int a1)] [.int s0, .ref s1] := by
  unfold x9_passHours_j34 at E
  obtain ⟨g1, e2, E⟩ := gb_some E
  refine r_put X dX9_passHours_34 f_X9_57 rfl rfl e2 ?_
  refine r_aload_n X 0 dX9_passHours_37 rfl rfl ?_
  obtain ⟨x3, e4, E⟩ := gb_some E
  refine r_getI X dX9_passHours_38 f_X9_57 e4 ?_
  refine r_if_le X 46 dX9_passHours_41 (by decide) (fun c5 => ?_) (fun c5 => ?_)
  · rw [if_pos c5] at E
    refine r_aload_n X 0 dX9_passHours_46 rfl rfl ?_
    obtain ⟨u9, e10, E⟩ := gb_some E
    obtain ⟨r6, g7, e8, E⟩ := cb_some E
    refine r_callV0 X hl0 (ci := 9) dX9_passHours_47 y_X9_record m_X9_413 rfl rfl e10 (t_x9_record (l := l) (G := G) e8) rfl rfl (Nat.le_of_ble_eq_true rfl) (by decide) ?_
    refine r_aload_n X 0 dX9_passHours_50 rfl rfl ?_
    obtain ⟨x11, e12, E⟩ := gb_some E
    refine r_getR X dX9_passHours_51 f_X9_7 e12 ?_
    refine r_bipush X (v := 6) dX9_passHours_54 (by decide) ?_
    obtain ⟨x13, e14, E⟩ := gb_some E
    refine r_iald X dX9_passHours_56 e14 ?_
    refine r_istore_n X 2 (L1 := [(2, .int x13), (0, .ref a0), (1, .int a1)]) dX9_passHours_57 rfl (by decide) rfl ?_
    refine r_aload_n X 0 dX9_passHours_58 rfl rfl ?_
    refine r_iload_n X 1 dX9_passHours_59 rfl rfl ?_
    obtain ⟨u18, e19, E⟩ := gb_some E
    obtain ⟨r15, g16, e17, E⟩ := cb_some E
    refine r_callV0 X hl0 (ci := 9) dX9_passHours_60 y_X9_passMany m_X9_385 rfl rfl e19 (t_x9_passMany (l := l) (G := G) e17) rfl rfl (Nat.le_of_ble_eq_true rfl) (by decide) ?_
    refine r_aload_n X 0 dX9_passHours_63 rfl rfl ?_
    obtain ⟨x20, e21, E⟩ := gb_some E
    refine r_getR X dX9_passHours_64 f_X9_7 e21 ?_
    refine r_bipush X (v := 6) dX9_passHours_67 (by decide) ?_
    obtain ⟨x22, e23, E⟩ := gb_some E
    refine r_iald X dX9_passHours_69 e23 ?_
    refine r_iload_n X 2 dX9_passHours_70 rfl rfl ?_
    refine r_isub X dX9_passHours_71 ?_
    cases E
    exact r_iret X hr dX9_passHours_72 (by decide) (by decide)
  · rw [if_neg c5] at E
    refine r_iconst X (v := 0) dX9_passHours_44 (by decide) ?_
    cases E
    exact r_iret X hr dX9_passHours_45 (by decide) (by decide)
set_option maxHeartbeats 4000000 in
set_option maxRecDepth 100000 in
theorem t_x9_passHours_b {l : Launch} {G : GG} {M : MC} (X : CX M G cX9_passHours 3 RX9 ⟨12, 0, 0, 298⟩) (hl0 : M.2.1 = l) (hr : (mM M).sig.returnType = (some .int)) (hnm : (mM M).name = yX9_passHours.name) {p : Nat} {b0 : Int32} {g : AH} {r : Int32} {g1 : AH} (E : x9_passHours p b0 g = some (r, g1)) : WW M G 3 (RQ M G (some (.int r)) g1 0 0) 0 0 g 0 [(0, .ref p), (1, .int b0)] [] := by
  unfold x9_passHours at E
  refine r_aload_n X 0 dX9_passHours_0 rfl rfl ?_
  refine r_iload_n X 1 dX9_passHours_1 rfl rfl ?_
  refine r_iconst X (v := 1) dX9_passHours_2 (by decide) ?_
  refine r_bipush X (v := 48) dX9_passHours_3 (by decide) ?_
  obtain ⟨r1, g2, e3, E⟩ := cb_some E
  refine r_callS0 X hl0 dX9_passHours_5 y_X9_isBetween m_X9_68 (t_x9_isBetween (l := l) (G := G) e3) rfl rfl (Nat.le_of_ble_eq_true rfl) (by decide) ?_
  refine r_if_ne X 15 dX9_passHours_8 (by decide) (fun c4 => ?_) (fun c4 => ?_)
  · rw [if_neg c4] at E
    refine r_aload_n X 0 dX9_passHours_15 rfl rfl ?_
    obtain ⟨x5, e6, E⟩ := gb_some E
    refine r_getR X dX9_passHours_16 f_X9_7 e6 ?_
    refine r_iconst X (v := 3) dX9_passHours_19 (by decide) ?_
    obtain ⟨x7, e8, E⟩ := gb_some E
    refine r_iald X dX9_passHours_20 e8 ?_
    refine r_iload_n X 1 dX9_passHours_21 rfl rfl ?_
    refine r_iadd X dX9_passHours_22 ?_
    refine r_sipush X (v := 9999) dX9_passHours_23 (by decide) ?_
    refine r_icmp_le X 33 dX9_passHours_26 (by decide) (fun c9 => ?_) (fun c9 => ?_)
    · rw [if_pos c9] at E
      refine r_iconst X (v := 0) dX9_passHours_33 (by decide) ?_
      exact r_pick (by rfl : lpick [(0, .ref p), (1, .int b0)] [0, 1] = _) (t_x9_passHours_j34 X hl0 hr hnm E)
    · rw [if_neg c9] at E
      refine r_iconst X (v := 2) dX9_passHours_29 (by decide) ?_
      refine r_goto X 34 dX9_passHours_30 (by decide) ?_
      exact r_pick (by rfl : lpick [(0, .ref p), (1, .int b0)] [0, 1] = _) (t_x9_passHours_j34 X hl0 hr hnm E)
  · rw [if_pos c4] at E
    refine r_iconst X (v := 1) dX9_passHours_11 (by decide) ?_
    refine r_goto X 34 dX9_passHours_12 (by decide) ?_
    exact r_pick (by rfl : lpick [(0, .ref p), (1, .int b0)] [0, 1] = _) (t_x9_passHours_j34 X hl0 hr hnm E)
theorem t_x9_passHours {l : Launch} {G : GG} {p : Nat} {b0 : Int32} {g : AH} {r : Int32} {g1 : AH} (E : x9_passHours p b0 g = some (r, g1)) : Ct l G yX9_passHours cX9_passHours 3 (some .int) ⟨12, 0, 0, 298⟩ [.ref p, .int b0] g (some (.int r)) g1 :=
  ct_of (L0 := [(0, .ref p), (1, .int b0)]) y_X9_passHours rfl (Nat.le_of_ble_eq_true rfl) fun M hl0 X hr hnm => t_x9_passHours_b X hl0 hr hnm E
set_option maxHeartbeats 4000000 in
set_option maxRecDepth 100000 in
theorem t_x9_execute_j163 {l : Launch} {G : GG} {M : MC} (X : CX M G cX9_execute 5 RX9 ⟨13, 0, 0, 320⟩) (hl0 : M.2.1 = l) (hr : (mM M).sig.returnType = (some .boolean)) (hnm : (mM M).name = yX9_execute.name) {a0 : Nat} {g : AH} {r : Int32} {g1 : AH} (E : x9_execute_j163 a0 g = some (r, g1)) : WW M G 5 (RQ M G (some (.int r)) g1 0 0) 0 0 g 163 [(0, .ref a0)] [] := by
  unfold x9_execute_j163 at E
  refine r_aload_n X 0 dX9_execute_163 rfl rfl ?_
  obtain ⟨x1, e2, E⟩ := gb_some E
  refine r_getI X dX9_execute_164 f_X9_57 e2 ?_
  refine r_if_ne X 174 dX9_execute_167 (by decide) (fun c3 => ?_) (fun c3 => ?_)
  · rw [if_neg c3] at E
    refine r_iconst X (v := 0) dX9_execute_174 (by decide) ?_
    cases E
    exact r_zret X hr (Or.inl rfl) dX9_execute_175 (by decide) (by decide)
  · rw [if_pos c3] at E
    refine r_iconst X (v := 1) dX9_execute_170 (by decide) ?_
    refine r_goto X 175 dX9_execute_171 (by decide) ?_
    cases E
    exact r_zret X hr (Or.inr rfl) dX9_execute_175 (by decide) (by decide)
set_option maxHeartbeats 4000000 in
set_option maxRecDepth 100000 in
theorem t_x9_execute_b {l : Launch} {G : GG} {M : MC} (X : CX M G cX9_execute 5 RX9 ⟨13, 0, 0, 320⟩) (hl0 : M.2.1 = l) (hr : (mM M).sig.returnType = (some .boolean)) (hnm : (mM M).name = yX9_execute.name) {p : Nat} {b0 : Int32} {g : AH} {r : Int32} {g1 : AH} (E : x9_execute p b0 g = some (r, g1)) : WW M G 5 (RQ M G (some (.int r)) g1 0 0) 0 0 g 0 [(0, .ref p), (1, .int b0)] [] := by
  unfold x9_execute at E
  refine r_aload_n X 0 dX9_execute_0 rfl rfl ?_
  obtain ⟨x1, e2, E⟩ := gb_some E
  refine r_getR X dX9_execute_1 f_X9_37 e2 ?_
  refine r_iload_n X 1 dX9_execute_4 rfl rfl ?_
  refine r_iconst X (v := 1) dX9_execute_5 (by decide) ?_
  refine r_iadd X dX9_execute_6 ?_
  obtain ⟨x3, e4, E⟩ := gb_some E
  refine r_iald X dX9_execute_7 e4 ?_
  refine r_istore_n X 2 (L1 := [(2, .int x3), (0, .ref p), (1, .int b0)]) dX9_execute_8 rfl (by decide) rfl ?_
  refine r_aload_n X 0 dX9_execute_9 rfl rfl ?_
  obtain ⟨x5, e6, E⟩ := gb_some E
  refine r_getR X dX9_execute_10 f_X9_37 e6 ?_
  refine r_iload_n X 1 dX9_execute_13 rfl rfl ?_
  refine r_iconst X (v := 2) dX9_execute_14 (by decide) ?_
  refine r_iadd X dX9_execute_15 ?_
  obtain ⟨x7, e8, E⟩ := gb_some E
  refine r_iald X dX9_execute_16 e8 ?_
  refine r_istore_n X 3 (L1 := [(3, .int x7), (2, .int x3), (0, .ref p), (1, .int b0)]) dX9_execute_17 rfl (by decide) rfl ?_
  refine r_iconst X (v := 0) dX9_execute_18 (by decide) ?_
  refine r_istore X (L1 := [(4, .int 0), (3, .int x7), (2, .int x3), (0, .ref p), (1, .int b0)]) dX9_execute_19 (by decide) rfl ?_
  refine r_aload_n X 0 dX9_execute_21 rfl rfl ?_
  obtain ⟨x9, e10, E⟩ := gb_some E
  refine r_getR X dX9_execute_22 f_X9_37 e10 ?_
  refine r_iload_n X 1 dX9_execute_25 rfl rfl ?_
  obtain ⟨x11, e12, E⟩ := gb_some E
  refine r_iald X dX9_execute_26 e12 ?_
  by_cases c13 : x11 = 0
  · rw [if_pos c13] at E
    refine r_tswI X 0 72 dX9_execute_27 c13 (by decide) (by decide) rfl (by decide) ?_
    refine r_aload_n X 0 dX9_execute_72 rfl rfl ?_
    refine r_iload_n X 2 dX9_execute_73 rfl rfl ?_
    refine r_iload_n X 3 dX9_execute_74 rfl rfl ?_
    obtain ⟨u17, e18, E⟩ := gb_some E
    obtain ⟨r14, g15, e16, E⟩ := cb_some E
    refine r_callV0 X hl0 (ci := 9) dX9_execute_75 y_X9_takeBlanket m_X9_272 rfl rfl e18 (t_x9_takeBlanket (l := l) (G := G) e16) rfl rfl (Nat.le_of_ble_eq_true rfl) (by decide) ?_
    refine r_istore X (L1 := [(4, .int r14), (3, .int x7), (2, .int x3), (0, .ref p), (1, .int b0)]) dX9_execute_78 (by decide) rfl ?_
    refine r_goto X 163 dX9_execute_80 (by decide) ?_
    exact r_pick (by rfl : lpick [(4, .int r14), (3, .int x7), (2, .int x3), (0, .ref p), (1, .int b0)] [3] = _) (t_x9_execute_j163 X hl0 hr hnm E)
  rw [if_neg c13] at E
  by_cases c19 : x11 = 1
  · rw [if_pos c19] at E
    refine r_tswI X 1 83 dX9_execute_27 c19 (by decide) (by decide) rfl (by decide) ?_
    refine r_aload_n X 0 dX9_execute_83 rfl rfl ?_
    refine r_iload_n X 2 dX9_execute_84 rfl rfl ?_
    obtain ⟨u23, e24, E⟩ := gb_some E
    obtain ⟨r20, g21, e22, E⟩ := cb_some E
    refine r_callV0 X hl0 (ci := 9) dX9_execute_85 y_X9_returnBlanket m_X9_275 rfl rfl e24 (t_x9_returnBlanket (l := l) (G := G) e22) rfl rfl (Nat.le_of_ble_eq_true rfl) (by decide) ?_
    refine r_istore X (L1 := [(4, .int r20), (3, .int x7), (2, .int x3), (0, .ref p), (1, .int b0)]) dX9_execute_88 (by decide) rfl ?_
    refine r_goto X 163 dX9_execute_90 (by decide) ?_
    exact r_pick (by rfl : lpick [(4, .int r20), (3, .int x7), (2, .int x3), (0, .ref p), (1, .int b0)] [3] = _) (t_x9_execute_j163 X hl0 hr hnm E)
  rw [if_neg c19] at E
  by_cases c25 : x11 = 2
  · rw [if_pos c25] at E
    refine r_tswI X 2 93 dX9_execute_27 c25 (by decide) (by decide) rfl (by decide) ?_
    refine r_aload_n X 0 dX9_execute_93 rfl rfl ?_
    refine r_iload_n X 2 dX9_execute_94 rfl rfl ?_
    refine r_iload_n X 3 dX9_execute_95 rfl rfl ?_
    obtain ⟨u29, e30, E⟩ := gb_some E
    obtain ⟨r26, g27, e28, E⟩ := cb_some E
    refine r_callV0 X hl0 (ci := 9) dX9_execute_96 y_X9_swapBlankets m_X9_278 rfl rfl e30 (t_x9_swapBlankets (l := l) (G := G) e28) rfl rfl (Nat.le_of_ble_eq_true rfl) (by decide) ?_
    refine r_istore X (L1 := [(4, .int r26), (3, .int x7), (2, .int x3), (0, .ref p), (1, .int b0)]) dX9_execute_99 (by decide) rfl ?_
    refine r_goto X 163 dX9_execute_101 (by decide) ?_
    exact r_pick (by rfl : lpick [(4, .int r26), (3, .int x7), (2, .int x3), (0, .ref p), (1, .int b0)] [3] = _) (t_x9_execute_j163 X hl0 hr hnm E)
  rw [if_neg c25] at E
  by_cases c31 : x11 = 3
  · rw [if_pos c31] at E
    refine r_tswI X 3 104 dX9_execute_27 c31 (by decide) (by decide) rfl (by decide) ?_
    refine r_aload_n X 0 dX9_execute_104 rfl rfl ?_
    refine r_iload_n X 2 dX9_execute_105 rfl rfl ?_
    refine r_iload_n X 3 dX9_execute_106 rfl rfl ?_
    obtain ⟨u35, e36, E⟩ := gb_some E
    obtain ⟨r32, g33, e34, E⟩ := cb_some E
    refine r_callV0 X hl0 (ci := 9) dX9_execute_107 y_X9_lieDown m_X9_281 rfl rfl e36 (t_x9_lieDown (l := l) (G := G) e34) rfl rfl (Nat.le_of_ble_eq_true rfl) (by decide) ?_
    refine r_istore X (L1 := [(4, .int r32), (3, .int x7), (2, .int x3), (0, .ref p), (1, .int b0)]) dX9_execute_110 (by decide) rfl ?_
    refine r_goto X 163 dX9_execute_112 (by decide) ?_
    exact r_pick (by rfl : lpick [(4, .int r32), (3, .int x7), (2, .int x3), (0, .ref p), (1, .int b0)] [3] = _) (t_x9_execute_j163 X hl0 hr hnm E)
  rw [if_neg c31] at E
  by_cases c37 : x11 = 4
  · rw [if_pos c37] at E
    refine r_tswI X 4 115 dX9_execute_27 c37 (by decide) (by decide) rfl (by decide) ?_
    refine r_aload_n X 0 dX9_execute_115 rfl rfl ?_
    refine r_iload_n X 2 dX9_execute_116 rfl rfl ?_
    obtain ⟨u41, e42, E⟩ := gb_some E
    obtain ⟨r38, g39, e40, E⟩ := cb_some E
    refine r_callV0 X hl0 (ci := 9) dX9_execute_117 y_X9_getUp m_X9_284 rfl rfl e42 (t_x9_getUp (l := l) (G := G) e40) rfl rfl (Nat.le_of_ble_eq_true rfl) (by decide) ?_
    refine r_istore X (L1 := [(4, .int r38), (3, .int x7), (2, .int x3), (0, .ref p), (1, .int b0)]) dX9_execute_120 (by decide) rfl ?_
    refine r_goto X 163 dX9_execute_122 (by decide) ?_
    exact r_pick (by rfl : lpick [(4, .int r38), (3, .int x7), (2, .int x3), (0, .ref p), (1, .int b0)] [3] = _) (t_x9_execute_j163 X hl0 hr hnm E)
  rw [if_neg c37] at E
  by_cases c43 : x11 = 5
  · rw [if_pos c43] at E
    refine r_tswI X 5 125 dX9_execute_27 c43 (by decide) (by decide) rfl (by decide) ?_
    refine r_aload_n X 0 dX9_execute_125 rfl rfl ?_
    refine r_iload_n X 2 dX9_execute_126 rfl rfl ?_
    obtain ⟨u47, e48, E⟩ := gb_some E
    obtain ⟨r44, g45, e46, E⟩ := cb_some E
    refine r_callV0 X hl0 (ci := 9) dX9_execute_127 y_X9_setRate m_X9_287 rfl rfl e48 (t_x9_setRate (l := l) (G := G) e46) rfl rfl (Nat.le_of_ble_eq_true rfl) (by decide) ?_
    refine r_istore X (L1 := [(4, .int r44), (3, .int x7), (2, .int x3), (0, .ref p), (1, .int b0)]) dX9_execute_130 (by decide) rfl ?_
    refine r_goto X 163 dX9_execute_132 (by decide) ?_
    exact r_pick (by rfl : lpick [(4, .int r44), (3, .int x7), (2, .int x3), (0, .ref p), (1, .int b0)] [3] = _) (t_x9_execute_j163 X hl0 hr hnm E)
  rw [if_neg c43] at E
  by_cases c49 : x11 = 6
  · rw [if_pos c49] at E
    refine r_tswI X 6 135 dX9_execute_27 c49 (by decide) (by decide) rfl (by decide) ?_
    refine r_aload_n X 0 dX9_execute_135 rfl rfl ?_
    refine r_iload_n X 2 dX9_execute_136 rfl rfl ?_
    obtain ⟨u53, e54, E⟩ := gb_some E
    obtain ⟨r50, g51, e52, E⟩ := cb_some E
    refine r_callV0 X hl0 (ci := 9) dX9_execute_137 y_X9_fetchLogs m_X9_290 rfl rfl e54 (t_x9_fetchLogs (l := l) (G := G) e52) rfl rfl (Nat.le_of_ble_eq_true rfl) (by decide) ?_
    refine r_istore X (L1 := [(4, .int r50), (3, .int x7), (2, .int x3), (0, .ref p), (1, .int b0)]) dX9_execute_140 (by decide) rfl ?_
    refine r_goto X 163 dX9_execute_142 (by decide) ?_
    exact r_pick (by rfl : lpick [(4, .int r50), (3, .int x7), (2, .int x3), (0, .ref p), (1, .int b0)] [3] = _) (t_x9_execute_j163 X hl0 hr hnm E)
  rw [if_neg c49] at E
  by_cases c55 : x11 = 7
  · rw [if_pos c55] at E
    refine r_tswI X 7 145 dX9_execute_27 c55 (by decide) (by decide) rfl (by decide) ?_
    refine r_aload_n X 0 dX9_execute_145 rfl rfl ?_
    refine r_iload_n X 2 dX9_execute_146 rfl rfl ?_
    refine r_iload_n X 3 dX9_execute_147 rfl rfl ?_
    obtain ⟨u59, e60, E⟩ := gb_some E
    obtain ⟨r56, g57, e58, E⟩ := cb_some E
    refine r_callV0 X hl0 (ci := 9) dX9_execute_148 y_X9_payDebt m_X9_293 rfl rfl e60 (t_x9_payDebt (l := l) (G := G) e58) rfl rfl (Nat.le_of_ble_eq_true rfl) (by decide) ?_
    refine r_istore X (L1 := [(4, .int r56), (3, .int x7), (2, .int x3), (0, .ref p), (1, .int b0)]) dX9_execute_151 (by decide) rfl ?_
    refine r_goto X 163 dX9_execute_153 (by decide) ?_
    exact r_pick (by rfl : lpick [(4, .int r56), (3, .int x7), (2, .int x3), (0, .ref p), (1, .int b0)] [3] = _) (t_x9_execute_j163 X hl0 hr hnm E)
  rw [if_neg c55] at E
  refine r_tswD X 156 dX9_execute_27 (tsw_out (fun k h1 h2 => by
    rcases (by omega : k = 0 ∨ k = 1 ∨ k = 2 ∨ k = 3 ∨ k = 4 ∨ k = 5 ∨ k = 6 ∨ k = 7) with rfl | rfl | rfl | rfl | rfl | rfl | rfl | rfl
    · exact c13
    · exact c19
    · exact c25
    · exact c31
    · exact c37
    · exact c43
    · exact c49
    · exact c55
    )) (by decide) ?_
  refine r_aload_n X 0 dX9_execute_156 rfl rfl ?_
  refine r_iload_n X 2 dX9_execute_157 rfl rfl ?_
  obtain ⟨u64, e65, E⟩ := gb_some E
  obtain ⟨r61, g62, e63, E⟩ := cb_some E
  refine r_callV0 X hl0 (ci := 9) dX9_execute_158 y_X9_passHours m_X9_296 rfl rfl e65 (t_x9_passHours (l := l) (G := G) e63) rfl rfl (Nat.le_of_ble_eq_true rfl) (by decide) ?_
  refine r_istore X (L1 := [(4, .int r61), (3, .int x7), (2, .int x3), (0, .ref p), (1, .int b0)]) dX9_execute_161 (by decide) rfl ?_
  exact r_pick (by rfl : lpick [(4, .int r61), (3, .int x7), (2, .int x3), (0, .ref p), (1, .int b0)] [3] = _) (t_x9_execute_j163 X hl0 hr hnm E)
theorem t_x9_execute {l : Launch} {G : GG} {p : Nat} {b0 : Int32} {g : AH} {r : Int32} {g1 : AH} (E : x9_execute p b0 g = some (r, g1)) : Ct l G yX9_execute cX9_execute 5 (some .boolean) ⟨13, 0, 0, 320⟩ [.ref p, .int b0] g (some (.int r)) g1 :=
  ct_of (L0 := [(0, .ref p), (1, .int b0)]) y_X9_execute rfl (Nat.le_of_ble_eq_true rfl) fun M hl0 X hr hnm => t_x9_execute_b X hl0 hr hnm E
set_option maxHeartbeats 4000000 in
set_option maxRecDepth 100000 in
theorem t_x9_runScript_l9 {l : Launch} {G : GG} {M : MC} (X : CX M G cX9_runScript 2 RX9 ⟨14, 0, 0, 344⟩) (hl0 : M.2.1 = l) (hr : (mM M).sig.returnType = (some .int)) (hnm : (mM M).name = yX9_runScript.name) {Q : State → Prop} {kc ks : Nat} {s9 : ((Unit) ⊕ (Unit))} {g1 : AH} {a0 : Nat} {s0 : Unit} (hc : ∀ s1, s9 = .inl s1 → WW M G 2 Q kc ks g1 9 [(0, .ref a0)] []) (hx : ∀ t, s9 = .inr t → WW M G 2 Q kc ks g1 30 [(0, .ref a0)] []) {g : AH} (E : x9_runScript_l9 a0 s0 g = some (s9, g1)) : WW M G 2 Q kc ks g 9 [(0, .ref a0)] [] := by
  unfold x9_runScript_l9 at E
  refine r_aload_n X 0 dX9_runScript_9 rfl rfl ?_
  obtain ⟨u4, e5, E⟩ := gb_some E
  obtain ⟨r1, g2, e3, E⟩ := cb_some E
  refine r_callV0 X hl0 (ci := 9) dX9_runScript_10 y_X9_isFine m_X9_147 rfl rfl e5 (t_x9_isFine (l := l) (G := G) e3) rfl rfl (Nat.le_of_ble_eq_true rfl) (by decide) ?_
  refine r_if_eq X 30 dX9_runScript_13 (by decide) (fun c6 => ?_) (fun c6 => ?_)
  · rw [if_pos c6] at E
    cases E
    exact r_pick (by rfl : lpick [(0, .ref a0)] [0] = _) (hx _ rfl)
  · rw [if_neg c6] at E
    refine r_aload_n X 0 dX9_runScript_16 rfl rfl ?_
    obtain ⟨x7, e8, E⟩ := gb_some E
    refine r_getI X dX9_runScript_17 f_X9_160 e8 ?_
    refine r_if_eq X 30 dX9_runScript_20 (by decide) (fun c9 => ?_) (fun c9 => ?_)
    · rw [if_pos c9] at E
      cases E
      exact r_pick (by rfl : lpick [(0, .ref a0)] [0] = _) (hx _ rfl)
    · rw [if_neg c9] at E
      refine r_aload_n X 0 dX9_runScript_23 rfl rfl ?_
      obtain ⟨u13, e14, E⟩ := gb_some E
      obtain ⟨r10, g11, e12, E⟩ := cb_some E
      refine r_callV0 X hl0 (ci := 9) dX9_runScript_24 y_X9_parseCommand m_X9_299 rfl rfl e14 (t_x9_parseCommand (l := l) (G := G) e12) rfl rfl (Nat.le_of_ble_eq_true rfl) (by decide) ?_
      refine r_goto X 9 dX9_runScript_27 (by decide) ?_
      cases E
      exact r_pick (by rfl : lpick [(0, .ref a0)] [0] = _) (hc _ rfl)
set_option maxHeartbeats 4000000 in
theorem t_x9_runScript_l9_r {l : Launch} {G : GG} {M : MC} (X : CX M G cX9_runScript 2 RX9 ⟨14, 0, 0, 344⟩) (hl0 : M.2.1 = l) (hr : (mM M).sig.returnType = (some .int)) (hnm : (mM M).name = yX9_runScript.name) {Q : State → Prop} {kc ks : Nat} {a0 : Nat} : ∀ (n : Nat) (s0 : Unit) (g : AH) (t : (Unit)) (g1 : AH), loopX (x9_runScript_l9 a0) n s0 g = some (t, g1) → WW M G 2 Q kc ks g1 30 [(0, .ref a0)] [] → WW M G 2 Q kc ks g 9 [(0, .ref a0)] [] :=
  loop_cps (K := fun t g1 => WW M G 2 Q kc ks g1 30 [(0, .ref a0)] []) (fun _ s0 g => WW M G 2 Q kc ks g 9 [(0, .ref a0)] []) (fun n s0 g st g1 E hc hx => t_x9_runScript_l9 X hl0 hr hnm hc hx E)
set_option maxHeartbeats 4000000 in
set_option maxRecDepth 100000 in
theorem t_x9_runScript_l46 {l : Launch} {G : GG} {M : MC} (X : CX M G cX9_runScript 2 RX9 ⟨14, 0, 0, 344⟩) (hl0 : M.2.1 = l) (hr : (mM M).sig.returnType = (some .int)) (hnm : (mM M).name = yX9_runScript.name) {Q : State → Prop} {kc ks : Nat} {s9 : ((Int32) ⊕ (Int32))} {g1 : AH} {a0 : Nat} {s0 : Int32} (hc : ∀ s1, s9 = .inl s1 → WW M G 2 Q kc ks g1 46 [(0, .ref a0), (1, .int s1)] []) (hx : ∀ t, s9 = .inr t → WW M G 2 Q kc ks g1 70 [(0, .ref a0), (1, .int t)] []) {g : AH} (E : x9_runScript_l46 a0 s0 g = some (s9, g1)) : WW M G 2 Q kc ks g 46 [(0, .ref a0), (1, .int s0)] [] := by
  unfold x9_runScript_l46 at E
  refine r_iload_n X 1 dX9_runScript_46 rfl rfl ?_
  refine r_aload_n X 0 dX9_runScript_47 rfl rfl ?_
  obtain ⟨x1, e2, E⟩ := gb_some E
  refine r_getI X dX9_runScript_48 f_X9_173 e2 ?_
  refine r_icmp_ge X 70 dX9_runScript_51 (by decide) (fun c3 => ?_) (fun c3 => ?_)
  · rw [if_pos c3] at E
    cases E
    exact r_pick (by rfl : lpick [(0, .ref a0), (1, .int s0)] [0, 1] = _) (hx _ rfl)
  · rw [if_neg c3] at E
    refine r_aload_n X 0 dX9_runScript_54 rfl rfl ?_
    refine r_iconst X (v := 3) dX9_runScript_55 (by decide) ?_
    refine r_iload_n X 1 dX9_runScript_56 rfl rfl ?_
    refine r_imul X dX9_runScript_57 ?_
    obtain ⟨u7, e8, E⟩ := gb_some E
    obtain ⟨r4, g5, e6, E⟩ := cb_some E
    refine r_callV0 X hl0 (ci := 9) dX9_runScript_58 y_X9_execute m_X9_302 rfl rfl e8 (t_x9_execute (l := l) (G := G) e6) rfl rfl (Nat.le_of_ble_eq_true rfl) (by decide) ?_
    refine r_if_eq X 70 dX9_runScript_61 (by decide) (fun c9 => ?_) (fun c9 => ?_)
    · rw [if_pos c9] at E
      cases E
      exact r_pick (by rfl : lpick [(0, .ref a0), (1, .int s0)] [0, 1] = _) (hx _ rfl)
    · rw [if_neg c9] at E
      refine r_iinc X (v := (s0 + 1)) (L1 := [(1, .int (s0 + 1)), (0, .ref a0)]) dX9_runScript_64 rfl rfl (by decide) rfl ?_
      refine r_goto X 46 dX9_runScript_67 (by decide) ?_
      cases E
      exact r_pick (by rfl : lpick [(1, .int (s0 + 1)), (0, .ref a0)] [1, 0] = _) (hc _ rfl)
set_option maxHeartbeats 4000000 in
theorem t_x9_runScript_l46_r {l : Launch} {G : GG} {M : MC} (X : CX M G cX9_runScript 2 RX9 ⟨14, 0, 0, 344⟩) (hl0 : M.2.1 = l) (hr : (mM M).sig.returnType = (some .int)) (hnm : (mM M).name = yX9_runScript.name) {Q : State → Prop} {kc ks : Nat} {a0 : Nat} : ∀ (n : Nat) (s0 : Int32) (g : AH) (t : (Int32)) (g1 : AH), loopX (x9_runScript_l46 a0) n s0 g = some (t, g1) → WW M G 2 Q kc ks g1 70 [(0, .ref a0), (1, .int t)] [] → WW M G 2 Q kc ks g 46 [(0, .ref a0), (1, .int s0)] [] :=
  loop_cps (K := fun t g1 => WW M G 2 Q kc ks g1 70 [(0, .ref a0), (1, .int t)] []) (fun _ s0 g => WW M G 2 Q kc ks g 46 [(0, .ref a0), (1, .int s0)] []) (fun n s0 g st g1 E hc hx => t_x9_runScript_l46 X hl0 hr hnm hc hx E)
set_option maxHeartbeats 4000000 in
set_option maxRecDepth 100000 in
theorem t_x9_runScript_j70 {l : Launch} {G : GG} {M : MC} (X : CX M G cX9_runScript 2 RX9 ⟨14, 0, 0, 344⟩) (hl0 : M.2.1 = l) (hr : (mM M).sig.returnType = (some .int)) (hnm : (mM M).name = yX9_runScript.name) {a0 : Nat} {a1 : Int32} {g : AH} {r : Int32} {g1 : AH} (E : x9_runScript_j70 a0 a1 g = some (r, g1)) : WW M G 2 (RQ M G (some (.int r)) g1 0 0) 0 0 g 70 [(0, .ref a0), (1, .int a1)] [] := by
  unfold x9_runScript_j70 at E
  refine r_aload_n X 0 dX9_runScript_70 rfl rfl ?_
  refine r_iload_n X 1 dX9_runScript_71 rfl rfl ?_
  obtain ⟨u4, e5, E⟩ := gb_some E
  obtain ⟨r1, g2, e3, E⟩ := cb_some E
  refine r_callV0 X hl0 (ci := 9) dX9_runScript_72 y_X9_tell m_X9_305 rfl rfl e5 (t_x9_tell (l := l) (G := G) e3) rfl rfl (Nat.le_of_ble_eq_true rfl) (by decide) ?_
  cases E
  exact r_iret X hr dX9_runScript_75 (by decide) (by decide)
set_option maxHeartbeats 4000000 in
set_option maxRecDepth 100000 in
theorem t_x9_runScript_j30 {l : Launch} {G : GG} {M : MC} (X : CX M G cX9_runScript 2 RX9 ⟨14, 0, 0, 344⟩) (hl0 : M.2.1 = l) (hr : (mM M).sig.returnType = (some .int)) (hnm : (mM M).name = yX9_runScript.name) {a0 : Nat} {g : AH} {r : Int32} {g1 : AH} (E : x9_runScript_j30 a0 g = some (r, g1)) : WW M G 2 (RQ M G (some (.int r)) g1 0 0) 0 0 g 30 [(0, .ref a0)] [] := by
  unfold x9_runScript_j30 at E
  refine r_aload_n X 0 dX9_runScript_30 rfl rfl ?_
  refine r_iconst X (v := 0) dX9_runScript_31 (by decide) ?_
  obtain ⟨g1, e2, E⟩ := gb_some E
  refine r_put X dX9_runScript_32 f_X9_138 rfl rfl e2 ?_
  refine r_aload_n X 0 dX9_runScript_35 rfl rfl ?_
  obtain ⟨u6, e7, E⟩ := gb_some E
  obtain ⟨r3, g4, e5, E⟩ := cb_some E
  refine r_callV0 X hl0 (ci := 9) dX9_runScript_36 y_X9_isFine m_X9_147 rfl rfl e7 (t_x9_isFine (l := l) (G := G) e5) rfl rfl (Nat.le_of_ble_eq_true rfl) (by decide) ?_
  refine r_if_ne X 44 dX9_runScript_39 (by decide) (fun c8 => ?_) (fun c8 => ?_)
  · rw [if_neg c8] at E
    refine r_iconst X (v := 0) dX9_runScript_44 (by decide) ?_
    refine r_istore_n X 1 (L1 := [(1, .int 0), (0, .ref a0)]) dX9_runScript_45 rfl (by decide) rfl ?_
    obtain ⟨t9, g10, e11, E⟩ := cb_some E
    refine r_pick (by rfl : lpick [(1, .int 0), (0, .ref a0)] [1, 0] = _) (t_x9_runScript_l46_r X hl0 hr hnm _ _ _ _ _ e11 ?_)
    exact r_pick (by rfl : lpick [(0, .ref a0), (1, .int t9)] [0, 1] = _) (t_x9_runScript_j70 X hl0 hr hnm E)
  · rw [if_pos c8] at E
    refine r_iconst X (v := (-1)) dX9_runScript_42 (by decide) ?_
    cases E
    exact r_iret X hr dX9_runScript_43 (by decide) (by decide)
set_option maxHeartbeats 4000000 in
set_option maxRecDepth 100000 in
theorem t_x9_runScript_b {l : Launch} {G : GG} {M : MC} (X : CX M G cX9_runScript 2 RX9 ⟨14, 0, 0, 344⟩) (hl0 : M.2.1 = l) (hr : (mM M).sig.returnType = (some .int)) (hnm : (mM M).name = yX9_runScript.name) {p : Nat} {g : AH} {r : Int32} {g1 : AH} (E : x9_runScript p g = some (r, g1)) : WW M G 2 (RQ M G (some (.int r)) g1 0 0) 0 0 g 0 [(0, .ref p)] [] := by
  unfold x9_runScript at E
  refine r_aload_n X 0 dX9_runScript_0 rfl rfl ?_
  refine r_iconst X (v := 0) dX9_runScript_1 (by decide) ?_
  obtain ⟨g1, e2, E⟩ := gb_some E
  refine r_put X dX9_runScript_2 f_X9_57 rfl rfl e2 ?_
  refine r_aload_n X 0 dX9_runScript_5 rfl rfl ?_
  obtain ⟨u6, e7, E⟩ := gb_some E
  obtain ⟨r3, g4, e5, E⟩ := cb_some E
  refine r_callV0 X hl0 (ci := 9) dX9_runScript_6 y_X9_startText m_X9_232 rfl rfl e7 (t_x9_startText (l := l) (G := G) e5) rfl rfl (Nat.le_of_ble_eq_true rfl) (by decide) ?_
  obtain ⟨t8, g9, e10, E⟩ := cb_some E
  refine r_pick (by rfl : lpick [(0, .ref p)] [0] = _) (t_x9_runScript_l9_r X hl0 hr hnm _ _ _ _ _ e10 ?_)
  exact r_pick (by rfl : lpick [(0, .ref p)] [0] = _) (t_x9_runScript_j30 X hl0 hr hnm E)
theorem t_x9_runScript {l : Launch} {G : GG} {p : Nat} {g : AH} {r : Int32} {g1 : AH} (E : x9_runScript p g = some (r, g1)) : Ct l G yX9_runScript cX9_runScript 2 (some .int) ⟨14, 0, 0, 344⟩ [.ref p] g (some (.int r)) g1 :=
  ct_of (L0 := [(0, .ref p)]) y_X9_runScript rfl (Nat.le_of_ble_eq_true rfl) fun M hl0 X hr hnm => t_x9_runScript_b X hl0 hr hnm E
set_option maxHeartbeats 4000000 in
set_option maxRecDepth 100000 in
theorem t_x9_errorCode_b {l : Launch} {G : GG} {M : MC} (X : CX M G cX9_errorCode 1 RX9 ⟨2, 0, 0, 81⟩) (hl0 : M.2.1 = l) (hr : (mM M).sig.returnType = (some .int)) (hnm : (mM M).name = yX9_errorCode.name) {p : Nat} {g : AH} {r : Int32} {g1 : AH} (E : x9_errorCode p g = some (r, g1)) : WW M G 1 (RQ M G (some (.int r)) g1 0 0) 0 0 g 0 [(0, .ref p)] [] := by
  unfold x9_errorCode at E
  refine r_aload_n X 0 dX9_errorCode_0 rfl rfl ?_
  refine r_aload_n X 0 dX9_errorCode_1 rfl rfl ?_
  obtain ⟨x1, e2, E⟩ := gb_some E
  refine r_getI X dX9_errorCode_2 f_X9_144 e2 ?_
  obtain ⟨u6, e7, E⟩ := gb_some E
  obtain ⟨r3, g4, e5, E⟩ := cb_some E
  refine r_callV0 X hl0 (ci := 9) dX9_errorCode_5 y_X9_tell m_X9_305 rfl rfl e7 (t_x9_tell (l := l) (G := G) e5) rfl rfl (Nat.le_of_ble_eq_true rfl) (by decide) ?_
  cases E
  exact r_iret X hr dX9_errorCode_8 (by decide) (by decide)
theorem t_x9_errorCode {l : Launch} {G : GG} {p : Nat} {g : AH} {r : Int32} {g1 : AH} (E : x9_errorCode p g = some (r, g1)) : Ct l G yX9_errorCode cX9_errorCode 1 (some .int) ⟨2, 0, 0, 81⟩ [.ref p] g (some (.int r)) g1 :=
  ct_of (L0 := [(0, .ref p)]) y_X9_errorCode rfl (Nat.le_of_ble_eq_true rfl) fun M hl0 X hr hnm => t_x9_errorCode_b X hl0 hr hnm E
set_option maxHeartbeats 4000000 in
set_option maxRecDepth 100000 in
theorem t_x9_errorPosition_b {l : Launch} {G : GG} {M : MC} (X : CX M G cX9_errorPosition 1 RX9 ⟨2, 0, 0, 81⟩) (hl0 : M.2.1 = l) (hr : (mM M).sig.returnType = (some .int)) (hnm : (mM M).name = yX9_errorPosition.name) {p : Nat} {g : AH} {r : Int32} {g1 : AH} (E : x9_errorPosition p g = some (r, g1)) : WW M G 1 (RQ M G (some (.int r)) g1 0 0) 0 0 g 0 [(0, .ref p)] [] := by
  unfold x9_errorPosition at E
  refine r_aload_n X 0 dX9_errorPosition_0 rfl rfl ?_
  refine r_aload_n X 0 dX9_errorPosition_1 rfl rfl ?_
  obtain ⟨x1, e2, E⟩ := gb_some E
  refine r_getI X dX9_errorPosition_2 f_X9_33 e2 ?_
  obtain ⟨u6, e7, E⟩ := gb_some E
  obtain ⟨r3, g4, e5, E⟩ := cb_some E
  refine r_callV0 X hl0 (ci := 9) dX9_errorPosition_5 y_X9_tell m_X9_305 rfl rfl e7 (t_x9_tell (l := l) (G := G) e5) rfl rfl (Nat.le_of_ble_eq_true rfl) (by decide) ?_
  cases E
  exact r_iret X hr dX9_errorPosition_8 (by decide) (by decide)
theorem t_x9_errorPosition {l : Launch} {G : GG} {p : Nat} {g : AH} {r : Int32} {g1 : AH} (E : x9_errorPosition p g = some (r, g1)) : Ct l G yX9_errorPosition cX9_errorPosition 1 (some .int) ⟨2, 0, 0, 81⟩ [.ref p] g (some (.int r)) g1 :=
  ct_of (L0 := [(0, .ref p)]) y_X9_errorPosition rfl (Nat.le_of_ble_eq_true rfl) fun M hl0 X hr hnm => t_x9_errorPosition_b X hl0 hr hnm E
set_option maxHeartbeats 4000000 in
set_option maxRecDepth 100000 in
theorem t_x9_hour_b {l : Launch} {G : GG} {M : MC} (X : CX M G cX9_hour 1 RX9 ⟨2, 0, 0, 81⟩) (hl0 : M.2.1 = l) (hr : (mM M).sig.returnType = (some .int)) (hnm : (mM M).name = yX9_hour.name) {p : Nat} {g : AH} {r : Int32} {g1 : AH} (E : x9_hour p g = some (r, g1)) : WW M G 1 (RQ M G (some (.int r)) g1 0 0) 0 0 g 0 [(0, .ref p)] [] := by
  unfold x9_hour at E
  refine r_aload_n X 0 dX9_hour_0 rfl rfl ?_
  refine r_aload_n X 0 dX9_hour_1 rfl rfl ?_
  obtain ⟨x1, e2, E⟩ := gb_some E
  refine r_getR X dX9_hour_2 f_X9_7 e2 ?_
  refine r_iconst X (v := 3) dX9_hour_5 (by decide) ?_
  obtain ⟨x3, e4, E⟩ := gb_some E
  refine r_iald X dX9_hour_6 e4 ?_
  obtain ⟨u8, e9, E⟩ := gb_some E
  obtain ⟨r5, g6, e7, E⟩ := cb_some E
  refine r_callV0 X hl0 (ci := 9) dX9_hour_7 y_X9_tell m_X9_305 rfl rfl e9 (t_x9_tell (l := l) (G := G) e7) rfl rfl (Nat.le_of_ble_eq_true rfl) (by decide) ?_
  cases E
  exact r_iret X hr dX9_hour_10 (by decide) (by decide)
theorem t_x9_hour {l : Launch} {G : GG} {p : Nat} {g : AH} {r : Int32} {g1 : AH} (E : x9_hour p g = some (r, g1)) : Ct l G yX9_hour cX9_hour 1 (some .int) ⟨2, 0, 0, 81⟩ [.ref p] g (some (.int r)) g1 :=
  ct_of (L0 := [(0, .ref p)]) y_X9_hour rfl (Nat.le_of_ble_eq_true rfl) fun M hl0 X hr hnm => t_x9_hour_b X hl0 hr hnm E
set_option maxHeartbeats 4000000 in
set_option maxRecDepth 100000 in
theorem t_x9_hoursUntilDawn_b {l : Launch} {G : GG} {M : MC} (X : CX M G cX9_hoursUntilDawn 1 RX9 ⟨2, 0, 0, 81⟩) (hl0 : M.2.1 = l) (hr : (mM M).sig.returnType = (some .int)) (hnm : (mM M).name = yX9_hoursUntilDawn.name) {p : Nat} {g : AH} {r : Int32} {g1 : AH} (E : x9_hoursUntilDawn p g = some (r, g1)) : WW M G 1 (RQ M G (some (.int r)) g1 0 0) 0 0 g 0 [(0, .ref p)] [] := by
  unfold x9_hoursUntilDawn at E
  refine r_aload_n X 0 dX9_hoursUntilDawn_0 rfl rfl ?_
  refine r_aload_n X 0 dX9_hoursUntilDawn_1 rfl rfl ?_
  obtain ⟨u4, e5, E⟩ := gb_some E
  obtain ⟨r1, g2, e3, E⟩ := cb_some E
  refine r_callV0 X hl0 (ci := 9) dX9_hoursUntilDawn_2 y_X9_toDawn m_X9_308 rfl rfl e5 (t_x9_toDawn (l := l) (G := G) e3) rfl rfl (Nat.le_of_ble_eq_true rfl) (by decide) ?_
  obtain ⟨u9, e10, E⟩ := gb_some E
  obtain ⟨r6, g7, e8, E⟩ := cb_some E
  refine r_callV0 X hl0 (ci := 9) dX9_hoursUntilDawn_5 y_X9_tell m_X9_305 rfl rfl e10 (t_x9_tell (l := l) (G := G) e8) rfl rfl (Nat.le_of_ble_eq_true rfl) (by decide) ?_
  cases E
  exact r_iret X hr dX9_hoursUntilDawn_8 (by decide) (by decide)
theorem t_x9_hoursUntilDawn {l : Launch} {G : GG} {p : Nat} {g : AH} {r : Int32} {g1 : AH} (E : x9_hoursUntilDawn p g = some (r, g1)) : Ct l G yX9_hoursUntilDawn cX9_hoursUntilDawn 1 (some .int) ⟨2, 0, 0, 81⟩ [.ref p] g (some (.int r)) g1 :=
  ct_of (L0 := [(0, .ref p)]) y_X9_hoursUntilDawn rfl (Nat.le_of_ble_eq_true rfl) fun M hl0 X hr hnm => t_x9_hoursUntilDawn_b X hl0 hr hnm E
set_option maxHeartbeats 4000000 in
set_option maxRecDepth 100000 in
theorem t_x9_logs_b {l : Launch} {G : GG} {M : MC} (X : CX M G cX9_logs 1 RX9 ⟨2, 0, 0, 81⟩) (hl0 : M.2.1 = l) (hr : (mM M).sig.returnType = (some .int)) (hnm : (mM M).name = yX9_logs.name) {p : Nat} {g : AH} {r : Int32} {g1 : AH} (E : x9_logs p g = some (r, g1)) : WW M G 1 (RQ M G (some (.int r)) g1 0 0) 0 0 g 0 [(0, .ref p)] [] := by
  unfold x9_logs at E
  refine r_aload_n X 0 dX9_logs_0 rfl rfl ?_
  refine r_aload_n X 0 dX9_logs_1 rfl rfl ?_
  obtain ⟨x1, e2, E⟩ := gb_some E
  refine r_getR X dX9_logs_2 f_X9_7 e2 ?_
  refine r_iconst X (v := 0) dX9_logs_5 (by decide) ?_
  obtain ⟨x3, e4, E⟩ := gb_some E
  refine r_iald X dX9_logs_6 e4 ?_
  obtain ⟨u8, e9, E⟩ := gb_some E
  obtain ⟨r5, g6, e7, E⟩ := cb_some E
  refine r_callV0 X hl0 (ci := 9) dX9_logs_7 y_X9_tell m_X9_305 rfl rfl e9 (t_x9_tell (l := l) (G := G) e7) rfl rfl (Nat.le_of_ble_eq_true rfl) (by decide) ?_
  cases E
  exact r_iret X hr dX9_logs_10 (by decide) (by decide)
theorem t_x9_logs {l : Launch} {G : GG} {p : Nat} {g : AH} {r : Int32} {g1 : AH} (E : x9_logs p g = some (r, g1)) : Ct l G yX9_logs cX9_logs 1 (some .int) ⟨2, 0, 0, 81⟩ [.ref p] g (some (.int r)) g1 :=
  ct_of (L0 := [(0, .ref p)]) y_X9_logs rfl (Nat.le_of_ble_eq_true rfl) fun M hl0 X hr hnm => t_x9_logs_b X hl0 hr hnm E
set_option maxHeartbeats 4000000 in
set_option maxRecDepth 100000 in
theorem t_x9_temperature_b {l : Launch} {G : GG} {M : MC} (X : CX M G cX9_temperature 1 RX9 ⟨2, 0, 0, 81⟩) (hl0 : M.2.1 = l) (hr : (mM M).sig.returnType = (some .int)) (hnm : (mM M).name = yX9_temperature.name) {p : Nat} {g : AH} {r : Int32} {g1 : AH} (E : x9_temperature p g = some (r, g1)) : WW M G 1 (RQ M G (some (.int r)) g1 0 0) 0 0 g 0 [(0, .ref p)] [] := by
  unfold x9_temperature at E
  refine r_aload_n X 0 dX9_temperature_0 rfl rfl ?_
  refine r_aload_n X 0 dX9_temperature_1 rfl rfl ?_
  obtain ⟨u4, e5, E⟩ := gb_some E
  obtain ⟨r1, g2, e3, E⟩ := cb_some E
  refine r_callV0 X hl0 (ci := 9) dX9_temperature_2 y_X9_inside m_X9_79 rfl rfl e5 (t_x9_inside (l := l) (G := G) e3) rfl rfl (Nat.le_of_ble_eq_true rfl) (by decide) ?_
  obtain ⟨u9, e10, E⟩ := gb_some E
  obtain ⟨r6, g7, e8, E⟩ := cb_some E
  refine r_callV0 X hl0 (ci := 9) dX9_temperature_5 y_X9_tell m_X9_305 rfl rfl e10 (t_x9_tell (l := l) (G := G) e8) rfl rfl (Nat.le_of_ble_eq_true rfl) (by decide) ?_
  cases E
  exact r_iret X hr dX9_temperature_8 (by decide) (by decide)
theorem t_x9_temperature {l : Launch} {G : GG} {p : Nat} {g : AH} {r : Int32} {g1 : AH} (E : x9_temperature p g = some (r, g1)) : Ct l G yX9_temperature cX9_temperature 1 (some .int) ⟨2, 0, 0, 81⟩ [.ref p] g (some (.int r)) g1 :=
  ct_of (L0 := [(0, .ref p)]) y_X9_temperature rfl (Nat.le_of_ble_eq_true rfl) fun M hl0 X hr hnm => t_x9_temperature_b X hl0 hr hnm E
set_option maxHeartbeats 4000000 in
set_option maxRecDepth 100000 in
theorem t_x9_hikerIn_b {l : Launch} {G : GG} {M : MC} (X : CX M G cX9_hikerIn 2 RX9 ⟨4, 0, 0, 126⟩) (hl0 : M.2.1 = l) (hr : (mM M).sig.returnType = (some .int)) (hnm : (mM M).name = yX9_hikerIn.name) {p : Nat} {b0 : Int32} {g : AH} {r : Int32} {g1 : AH} (E : x9_hikerIn p b0 g = some (r, g1)) : WW M G 2 (RQ M G (some (.int r)) g1 0 0) 0 0 g 0 [(0, .ref p), (1, .int b0)] [] := by
  unfold x9_hikerIn at E
  refine r_aload_n X 0 dX9_hikerIn_0 rfl rfl ?_
  refine r_iconst X (v := 0) dX9_hikerIn_1 (by decide) ?_
  obtain ⟨g1, e2, E⟩ := gb_some E
  refine r_put X dX9_hikerIn_2 f_X9_57 rfl rfl e2 ?_
  refine r_aload_n X 0 dX9_hikerIn_5 rfl rfl ?_
  refine r_iload_n X 1 dX9_hikerIn_6 rfl rfl ?_
  obtain ⟨u6, e7, E⟩ := gb_some E
  obtain ⟨r3, g4, e5, E⟩ := cb_some E
  refine r_callV0 X hl0 (ci := 9) dX9_hikerIn_7 y_X9_isBunk m_X9_72 rfl rfl e7 (t_x9_isBunk (l := l) (G := G) e5) rfl rfl (Nat.le_of_ble_eq_true rfl) (by decide) ?_
  refine r_if_eq X 21 dX9_hikerIn_10 (by decide) (fun c8 => ?_) (fun c8 => ?_)
  · rw [if_pos c8] at E
    refine r_aload_n X 0 dX9_hikerIn_21 rfl rfl ?_
    refine r_iconst X (v := 1) dX9_hikerIn_22 (by decide) ?_
    obtain ⟨u12, e13, E⟩ := gb_some E
    obtain ⟨r9, g10, e11, E⟩ := cb_some E
    refine r_callV0 X hl0 (ci := 9) dX9_hikerIn_23 y_X9_fail m_X9_141 rfl rfl e13 (t_x9_fail (l := l) (G := G) e11) rfl rfl (Nat.le_of_ble_eq_true rfl) (by decide) ?_
    cases E
    exact r_iret X hr dX9_hikerIn_26 (by decide) (by decide)
  · rw [if_neg c8] at E
    refine r_aload_n X 0 dX9_hikerIn_13 rfl rfl ?_
    refine r_iload_n X 1 dX9_hikerIn_14 rfl rfl ?_
    obtain ⟨u17, e18, E⟩ := gb_some E
    obtain ⟨r14, g15, e16, E⟩ := cb_some E
    refine r_callV0 X hl0 (ci := 9) dX9_hikerIn_15 y_X9_inBunk m_X9_83 rfl rfl e18 (t_x9_inBunk (l := l) (G := G) e16) rfl rfl (Nat.le_of_ble_eq_true rfl) (by decide) ?_
    refine r_goto X 26 dX9_hikerIn_18 (by decide) ?_
    cases E
    exact r_iret X hr dX9_hikerIn_26 (by decide) (by decide)
theorem t_x9_hikerIn {l : Launch} {G : GG} {p : Nat} {b0 : Int32} {g : AH} {r : Int32} {g1 : AH} (E : x9_hikerIn p b0 g = some (r, g1)) : Ct l G yX9_hikerIn cX9_hikerIn 2 (some .int) ⟨4, 0, 0, 126⟩ [.ref p, .int b0] g (some (.int r)) g1 :=
  ct_of (L0 := [(0, .ref p), (1, .int b0)]) y_X9_hikerIn rfl (Nat.le_of_ble_eq_true rfl) fun M hl0 X hr hnm => t_x9_hikerIn_b X hl0 hr hnm E
set_option maxHeartbeats 4000000 in
set_option maxRecDepth 100000 in
theorem t_x9_noiseIn_b {l : Launch} {G : GG} {M : MC} (X : CX M G cX9_noiseIn 2 RX9 ⟨9, 0, 0, 234⟩) (hl0 : M.2.1 = l) (hr : (mM M).sig.returnType = (some .int)) (hnm : (mM M).name = yX9_noiseIn.name) {p : Nat} {b0 : Int32} {g : AH} {r : Int32} {g1 : AH} (E : x9_noiseIn p b0 g = some (r, g1)) : WW M G 2 (RQ M G (some (.int r)) g1 0 0) 0 0 g 0 [(0, .ref p), (1, .int b0)] [] := by
  unfold x9_noiseIn at E
  refine r_aload_n X 0 dX9_noiseIn_0 rfl rfl ?_
  refine r_iconst X (v := 0) dX9_noiseIn_1 (by decide) ?_
  obtain ⟨g1, e2, E⟩ := gb_some E
  refine r_put X dX9_noiseIn_2 f_X9_57 rfl rfl e2 ?_
  refine r_aload_n X 0 dX9_noiseIn_5 rfl rfl ?_
  refine r_iload_n X 1 dX9_noiseIn_6 rfl rfl ?_
  obtain ⟨u6, e7, E⟩ := gb_some E
  obtain ⟨r3, g4, e5, E⟩ := cb_some E
  refine r_callV0 X hl0 (ci := 9) dX9_noiseIn_7 y_X9_isBunk m_X9_72 rfl rfl e7 (t_x9_isBunk (l := l) (G := G) e5) rfl rfl (Nat.le_of_ble_eq_true rfl) (by decide) ?_
  refine r_if_eq X 21 dX9_noiseIn_10 (by decide) (fun c8 => ?_) (fun c8 => ?_)
  · rw [if_pos c8] at E
    refine r_aload_n X 0 dX9_noiseIn_21 rfl rfl ?_
    refine r_iconst X (v := 1) dX9_noiseIn_22 (by decide) ?_
    obtain ⟨u12, e13, E⟩ := gb_some E
    obtain ⟨r9, g10, e11, E⟩ := cb_some E
    refine r_callV0 X hl0 (ci := 9) dX9_noiseIn_23 y_X9_fail m_X9_141 rfl rfl e13 (t_x9_fail (l := l) (G := G) e11) rfl rfl (Nat.le_of_ble_eq_true rfl) (by decide) ?_
    cases E
    exact r_iret X hr dX9_noiseIn_26 (by decide) (by decide)
  · rw [if_neg c8] at E
    refine r_aload_n X 0 dX9_noiseIn_13 rfl rfl ?_
    refine r_iload_n X 1 dX9_noiseIn_14 rfl rfl ?_
    obtain ⟨u17, e18, E⟩ := gb_some E
    obtain ⟨r14, g15, e16, E⟩ := cb_some E
    refine r_callV0 X hl0 (ci := 9) dX9_noiseIn_15 y_X9_noise m_X9_102 rfl rfl e18 (t_x9_noise (l := l) (G := G) e16) rfl rfl (Nat.le_of_ble_eq_true rfl) (by decide) ?_
    refine r_goto X 26 dX9_noiseIn_18 (by decide) ?_
    cases E
    exact r_iret X hr dX9_noiseIn_26 (by decide) (by decide)
theorem t_x9_noiseIn {l : Launch} {G : GG} {p : Nat} {b0 : Int32} {g : AH} {r : Int32} {g1 : AH} (E : x9_noiseIn p b0 g = some (r, g1)) : Ct l G yX9_noiseIn cX9_noiseIn 2 (some .int) ⟨9, 0, 0, 234⟩ [.ref p, .int b0] g (some (.int r)) g1 :=
  ct_of (L0 := [(0, .ref p), (1, .int b0)]) y_X9_noiseIn rfl (Nat.le_of_ble_eq_true rfl) fun M hl0 X hr hnm => t_x9_noiseIn_b X hl0 hr hnm E
set_option maxHeartbeats 4000000 in
set_option maxRecDepth 100000 in
theorem t_x9_isQuieter_j41 {l : Launch} {G : GG} {M : MC} (X : CX M G cX9_isQuieter 4 RX9 ⟨9, 0, 0, 234⟩) (hl0 : M.2.1 = l) (hr : (mM M).sig.returnType = (some .boolean)) (hnm : (mM M).name = yX9_isQuieter.name)  {g : AH} {r : Int32} {g1 : AH} (E : x9_isQuieter_j41  g = some (r, g1)) : WW M G 4 (RQ M G (some (.int r)) g1 0 0) 0 0 g 41 [] [] := by
  unfold x9_isQuieter_j41 at E
  refine r_iconst X (v := 1) dX9_isQuieter_41 (by decide) ?_
  refine r_goto X 46 dX9_isQuieter_42 (by decide) ?_
  cases E
  exact r_zret X hr (Or.inr rfl) dX9_isQuieter_46 (by decide) (by decide)
set_option maxHeartbeats 4000000 in
set_option maxRecDepth 100000 in
theorem t_x9_isQuieter_b {l : Launch} {G : GG} {M : MC} (X : CX M G cX9_isQuieter 4 RX9 ⟨9, 0, 0, 234⟩) (hl0 : M.2.1 = l) (hr : (mM M).sig.returnType = (some .boolean)) (hnm : (mM M).name = yX9_isQuieter.name) {p : Nat} {b0 : Int32} {b1 : Int32} {g : AH} {r : Int32} {g1 : AH} (E : x9_isQuieter p b0 b1 g = some (r, g1)) : WW M G 4 (RQ M G (some (.int r)) g1 0 0) 0 0 g 0 [(0, .ref p), (1, .int b0), (2, .int b1)] [] := by
  unfold x9_isQuieter at E
  refine r_aload_n X 0 dX9_isQuieter_0 rfl rfl ?_
  refine r_iload_n X 2 dX9_isQuieter_1 rfl rfl ?_
  obtain ⟨u4, e5, E⟩ := gb_some E
  obtain ⟨r1, g2, e3, E⟩ := cb_some E
  refine r_callV0 X hl0 (ci := 9) dX9_isQuieter_2 y_X9_noise m_X9_102 rfl rfl e5 (t_x9_noise (l := l) (G := G) e3) rfl rfl (Nat.le_of_ble_eq_true rfl) (by decide) ?_
  refine r_aload_n X 0 dX9_isQuieter_5 rfl rfl ?_
  refine r_iload_n X 1 dX9_isQuieter_6 rfl rfl ?_
  obtain ⟨u9, e10, E⟩ := gb_some E
  obtain ⟨r6, g7, e8, E⟩ := cb_some E
  refine r_callV0 X hl0 (ci := 9) dX9_isQuieter_7 y_X9_noise m_X9_102 rfl rfl e10 (t_x9_noise (l := l) (G := G) e8) rfl rfl (Nat.le_of_ble_eq_true rfl) (by decide) ?_
  refine r_isub X dX9_isQuieter_10 ?_
  refine r_istore_n X 3 (L1 := [(3, .int (r1 - r6)), (0, .ref p), (1, .int b0), (2, .int b1)]) dX9_isQuieter_11 rfl (by decide) rfl ?_
  refine r_iload_n X 3 dX9_isQuieter_12 rfl rfl ?_
  refine r_if_gt X 41 dX9_isQuieter_13 (by decide) (fun c11 => ?_) (fun c11 => ?_)
  · rw [if_pos c11] at E
    exact r_pick (by rfl : lpick [(3, .int (r1 - r6)), (0, .ref p), (1, .int b0), (2, .int b1)] [] = _) (t_x9_isQuieter_j41 X hl0 hr hnm E)
  · rw [if_neg c11] at E
    refine r_iload_n X 3 dX9_isQuieter_16 rfl rfl ?_
    refine r_if_ne X 45 dX9_isQuieter_17 (by decide) (fun c12 => ?_) (fun c12 => ?_)
    · rw [if_neg c12] at E
      refine r_iconst X (v := 0) dX9_isQuieter_45 (by decide) ?_
      cases E
      exact r_zret X hr (Or.inl rfl) dX9_isQuieter_46 (by decide) (by decide)
    · rw [if_pos c12] at E
      refine r_aload_n X 0 dX9_isQuieter_20 rfl rfl ?_
      obtain ⟨x13, e14, E⟩ := gb_some E
      refine r_getR X dX9_isQuieter_21 f_X9_7 e14 ?_
      refine r_bipush X (v := 13) dX9_isQuieter_24 (by decide) ?_
      refine r_iload_n X 1 dX9_isQuieter_26 rfl rfl ?_
      refine r_iadd X dX9_isQuieter_27 ?_
      obtain ⟨x15, e16, E⟩ := gb_some E
      refine r_iald X dX9_isQuieter_28 e16 ?_
      refine r_aload_n X 0 dX9_isQuieter_29 rfl rfl ?_
      obtain ⟨x17, e18, E⟩ := gb_some E
      refine r_getR X dX9_isQuieter_30 f_X9_7 e18 ?_
      refine r_bipush X (v := 13) dX9_isQuieter_33 (by decide) ?_
      refine r_iload_n X 2 dX9_isQuieter_35 rfl rfl ?_
      refine r_iadd X dX9_isQuieter_36 ?_
      obtain ⟨x19, e20, E⟩ := gb_some E
      refine r_iald X dX9_isQuieter_37 e20 ?_
      refine r_icmp_le X 45 dX9_isQuieter_38 (by decide) (fun c21 => ?_) (fun c21 => ?_)
      · rw [if_pos c21] at E
        refine r_iconst X (v := 0) dX9_isQuieter_45 (by decide) ?_
        cases E
        exact r_zret X hr (Or.inl rfl) dX9_isQuieter_46 (by decide) (by decide)
      · rw [if_neg c21] at E
        exact r_pick (by rfl : lpick [(3, .int (r1 - r6)), (0, .ref p), (1, .int b0), (2, .int b1)] [] = _) (t_x9_isQuieter_j41 X hl0 hr hnm E)
theorem t_x9_isQuieter {l : Launch} {G : GG} {p : Nat} {b0 : Int32} {b1 : Int32} {g : AH} {r : Int32} {g1 : AH} (E : x9_isQuieter p b0 b1 g = some (r, g1)) : Ct l G yX9_isQuieter cX9_isQuieter 4 (some .boolean) ⟨9, 0, 0, 234⟩ [.ref p, .int b0, .int b1] g (some (.int r)) g1 :=
  ct_of (L0 := [(0, .ref p), (1, .int b0), (2, .int b1)]) y_X9_isQuieter rfl (Nat.le_of_ble_eq_true rfl) fun M hl0 X hr hnm => t_x9_isQuieter_b X hl0 hr hnm E
set_option maxHeartbeats 4000000 in
set_option maxRecDepth 100000 in
theorem t_x9_quietestBunk_j45_9 {l : Launch} {G : GG} {M : MC} (X : CX M G cX9_quietestBunk 3 RX9 ⟨10, 0, 0, 257⟩) (hl0 : M.2.1 = l) (hr : (mM M).sig.returnType = (some .int)) (hnm : (mM M).name = yX9_quietestBunk.name) {Q : State → Prop} {kc ks : Nat} {s9 : ((Int32 × Int32) ⊕ (Int32))} {g1 : AH} {a0 : Nat} {a1 : Int32} {a2 : Int32} (hc : ∀ s1, s9 = .inl s1 → WW M G 3 Q kc ks g1 9 [(0, .ref a0), (1, .int s1.1), (2, .int s1.2)] []) (hx : ∀ t, s9 = .inr t → WW M G 3 Q kc ks g1 51 [(1, .int t)] []) {g : AH} (E : x9_quietestBunk_j45_9 a0 a1 a2 g = some (s9, g1)) : WW M G 3 Q kc ks g 45 [(0, .ref a0), (1, .int a1), (2, .int a2)] [] := by
  unfold x9_quietestBunk_j45_9 at E
  refine r_iinc X (v := (a2 + 1)) (L1 := [(2, .int (a2 + 1)), (0, .ref a0), (1, .int a1)]) dX9_quietestBunk_45 rfl rfl (by decide) rfl ?_
  refine r_goto X 9 dX9_quietestBunk_48 (by decide) ?_
  cases E
  exact r_pick (by rfl : lpick [(2, .int (a2 + 1)), (0, .ref a0), (1, .int a1)] [1, 2, 0] = _) (hc _ rfl)
set_option maxHeartbeats 4000000 in
set_option maxRecDepth 100000 in
theorem t_x9_quietestBunk_j43_9 {l : Launch} {G : GG} {M : MC} (X : CX M G cX9_quietestBunk 3 RX9 ⟨10, 0, 0, 257⟩) (hl0 : M.2.1 = l) (hr : (mM M).sig.returnType = (some .int)) (hnm : (mM M).name = yX9_quietestBunk.name) {Q : State → Prop} {kc ks : Nat} {s9 : ((Int32 × Int32) ⊕ (Int32))} {g1 : AH} {a0 : Nat} {a2 : Int32} (hc : ∀ s1, s9 = .inl s1 → WW M G 3 Q kc ks g1 9 [(0, .ref a0), (1, .int s1.1), (2, .int s1.2)] []) (hx : ∀ t, s9 = .inr t → WW M G 3 Q kc ks g1 51 [(1, .int t)] []) {g : AH} (E : x9_quietestBunk_j43_9 a0 a2 g = some (s9, g1)) : WW M G 3 Q kc ks g 43 [(0, .ref a0), (2, .int a2)] [] := by
  unfold x9_quietestBunk_j43_9 at E
  refine r_iload_n X 2 dX9_quietestBunk_43 rfl rfl ?_
  refine r_istore_n X 1 (L1 := [(1, .int a2), (0, .ref a0), (2, .int a2)]) dX9_quietestBunk_44 rfl (by decide) rfl ?_
  exact r_pick (by rfl : lpick [(1, .int a2), (0, .ref a0), (2, .int a2)] [1, 0, 2] = _) (t_x9_quietestBunk_j45_9 X hl0 hr hnm hc hx E)
set_option maxHeartbeats 4000000 in
set_option maxRecDepth 100000 in
theorem t_x9_quietestBunk_l9 {l : Launch} {G : GG} {M : MC} (X : CX M G cX9_quietestBunk 3 RX9 ⟨10, 0, 0, 257⟩) (hl0 : M.2.1 = l) (hr : (mM M).sig.returnType = (some .int)) (hnm : (mM M).name = yX9_quietestBunk.name) {Q : State → Prop} {kc ks : Nat} {s9 : ((Int32 × Int32) ⊕ (Int32))} {g1 : AH} {a0 : Nat} {s0 : Int32 × Int32} (hc : ∀ s1, s9 = .inl s1 → WW M G 3 Q kc ks g1 9 [(0, .ref a0), (1, .int s1.1), (2, .int s1.2)] []) (hx : ∀ t, s9 = .inr t → WW M G 3 Q kc ks g1 51 [(1, .int t)] []) {g : AH} (E : x9_quietestBunk_l9 a0 s0 g = some (s9, g1)) : WW M G 3 Q kc ks g 9 [(0, .ref a0), (1, .int s0.1), (2, .int s0.2)] [] := by
  unfold x9_quietestBunk_l9 at E
  refine r_iload_n X 2 dX9_quietestBunk_9 rfl rfl ?_
  refine r_aload_n X 0 dX9_quietestBunk_10 rfl rfl ?_
  obtain ⟨x1, e2, E⟩ := gb_some E
  refine r_getR X dX9_quietestBunk_11 f_X9_7 e2 ?_
  refine r_bipush X (v := 9) dX9_quietestBunk_14 (by decide) ?_
  obtain ⟨x3, e4, E⟩ := gb_some E
  refine r_iald X dX9_quietestBunk_16 e4 ?_
  refine r_icmp_ge X 51 dX9_quietestBunk_17 (by decide) (fun c5 => ?_) (fun c5 => ?_)
  · rw [if_pos c5] at E
    cases E
    exact r_pick (by rfl : lpick [(0, .ref a0), (1, .int s0.1), (2, .int s0.2)] [1] = _) (hx _ rfl)
  · rw [if_neg c5] at E
    refine r_aload_n X 0 dX9_quietestBunk_20 rfl rfl ?_
    refine r_iload_n X 2 dX9_quietestBunk_21 rfl rfl ?_
    obtain ⟨u9, e10, E⟩ := gb_some E
    obtain ⟨r6, g7, e8, E⟩ := cb_some E
    refine r_callV0 X hl0 (ci := 9) dX9_quietestBunk_22 y_X9_inBunk m_X9_83 rfl rfl e10 (t_x9_inBunk (l := l) (G := G) e8) rfl rfl (Nat.le_of_ble_eq_true rfl) (by decide) ?_
    refine r_iconst X (v := (-1)) dX9_quietestBunk_25 (by decide) ?_
    refine r_icmp_ne X 45 dX9_quietestBunk_26 (by decide) (fun c11 => ?_) (fun c11 => ?_)
    · rw [if_neg c11] at E
      exact r_pick (by rfl : lpick [(0, .ref a0), (1, .int s0.1), (2, .int s0.2)] [0, 1, 2] = _) (t_x9_quietestBunk_j45_9 X hl0 hr hnm hc hx E)
    · rw [if_pos c11] at E
      refine r_iload_n X 1 dX9_quietestBunk_29 rfl rfl ?_
      refine r_iconst X (v := (-1)) dX9_quietestBunk_30 (by decide) ?_
      refine r_icmp_eq X 43 dX9_quietestBunk_31 (by decide) (fun c12 => ?_) (fun c12 => ?_)
      · rw [if_pos c12] at E
        exact r_pick (by rfl : lpick [(0, .ref a0), (1, .int s0.1), (2, .int s0.2)] [0, 2] = _) (t_x9_quietestBunk_j43_9 X hl0 hr hnm hc hx E)
      · rw [if_neg c12] at E
        refine r_aload_n X 0 dX9_quietestBunk_34 rfl rfl ?_
        refine r_iload_n X 2 dX9_quietestBunk_35 rfl rfl ?_
        refine r_iload_n X 1 dX9_quietestBunk_36 rfl rfl ?_
        obtain ⟨u16, e17, E⟩ := gb_some E
        obtain ⟨r13, g14, e15, E⟩ := cb_some E
        refine r_callV0 X hl0 (ci := 9) dX9_quietestBunk_37 y_X9_isQuieter m_X9_311 rfl rfl e17 (t_x9_isQuieter (l := l) (G := G) e15) rfl rfl (Nat.le_of_ble_eq_true rfl) (by decide) ?_
        refine r_if_eq X 45 dX9_quietestBunk_40 (by decide) (fun c18 => ?_) (fun c18 => ?_)
        · rw [if_pos c18] at E
          exact r_pick (by rfl : lpick [(0, .ref a0), (1, .int s0.1), (2, .int s0.2)] [0, 1, 2] = _) (t_x9_quietestBunk_j45_9 X hl0 hr hnm hc hx E)
        · rw [if_neg c18] at E
          exact r_pick (by rfl : lpick [(0, .ref a0), (1, .int s0.1), (2, .int s0.2)] [0, 2] = _) (t_x9_quietestBunk_j43_9 X hl0 hr hnm hc hx E)
set_option maxHeartbeats 4000000 in
theorem t_x9_quietestBunk_l9_r {l : Launch} {G : GG} {M : MC} (X : CX M G cX9_quietestBunk 3 RX9 ⟨10, 0, 0, 257⟩) (hl0 : M.2.1 = l) (hr : (mM M).sig.returnType = (some .int)) (hnm : (mM M).name = yX9_quietestBunk.name) {Q : State → Prop} {kc ks : Nat} {a0 : Nat} : ∀ (n : Nat) (s0 : Int32 × Int32) (g : AH) (t : (Int32)) (g1 : AH), loopX (x9_quietestBunk_l9 a0) n s0 g = some (t, g1) → WW M G 3 Q kc ks g1 51 [(1, .int t)] [] → WW M G 3 Q kc ks g 9 [(0, .ref a0), (1, .int s0.1), (2, .int s0.2)] [] :=
  loop_cps (K := fun t g1 => WW M G 3 Q kc ks g1 51 [(1, .int t)] []) (fun _ s0 g => WW M G 3 Q kc ks g 9 [(0, .ref a0), (1, .int s0.1), (2, .int s0.2)] []) (fun n s0 g st g1 E hc hx => t_x9_quietestBunk_l9 X hl0 hr hnm hc hx E)
set_option maxHeartbeats 4000000 in
set_option maxRecDepth 100000 in
theorem t_x9_quietestBunk_b {l : Launch} {G : GG} {M : MC} (X : CX M G cX9_quietestBunk 3 RX9 ⟨10, 0, 0, 257⟩) (hl0 : M.2.1 = l) (hr : (mM M).sig.returnType = (some .int)) (hnm : (mM M).name = yX9_quietestBunk.name) {p : Nat} {g : AH} {r : Int32} {g1 : AH} (E : x9_quietestBunk p g = some (r, g1)) : WW M G 3 (RQ M G (some (.int r)) g1 0 0) 0 0 g 0 [(0, .ref p)] [] := by
  unfold x9_quietestBunk at E
  refine r_aload_n X 0 dX9_quietestBunk_0 rfl rfl ?_
  refine r_iconst X (v := 0) dX9_quietestBunk_1 (by decide) ?_
  obtain ⟨g1, e2, E⟩ := gb_some E
  refine r_put X dX9_quietestBunk_2 f_X9_57 rfl rfl e2 ?_
  refine r_iconst X (v := (-1)) dX9_quietestBunk_5 (by decide) ?_
  refine r_istore_n X 1 (L1 := [(1, .int (-1)), (0, .ref p)]) dX9_quietestBunk_6 rfl (by decide) rfl ?_
  refine r_iconst X (v := 0) dX9_quietestBunk_7 (by decide) ?_
  refine r_istore_n X 2 (L1 := [(2, .int 0), (1, .int (-1)), (0, .ref p)]) dX9_quietestBunk_8 rfl (by decide) rfl ?_
  obtain ⟨t3, g4, e5, E⟩ := cb_some E
  refine r_pick (by rfl : lpick [(2, .int 0), (1, .int (-1)), (0, .ref p)] [2, 1, 0] = _) (t_x9_quietestBunk_l9_r X hl0 hr hnm _ _ _ _ _ e5 ?_)
  refine r_iload_n X 1 dX9_quietestBunk_51 rfl rfl ?_
  cases E
  exact r_iret X hr dX9_quietestBunk_52 (by decide) (by decide)
theorem t_x9_quietestBunk {l : Launch} {G : GG} {p : Nat} {g : AH} {r : Int32} {g1 : AH} (E : x9_quietestBunk p g = some (r, g1)) : Ct l G yX9_quietestBunk cX9_quietestBunk 3 (some .int) ⟨10, 0, 0, 257⟩ [.ref p] g (some (.int r)) g1 :=
  ct_of (L0 := [(0, .ref p)]) y_X9_quietestBunk rfl (Nat.le_of_ble_eq_true rfl) fun M hl0 X hr hnm => t_x9_quietestBunk_b X hl0 hr hnm E
set_option maxHeartbeats 4000000 in
set_option maxRecDepth 100000 in
theorem t_x9_longestRow_j38_11 {l : Launch} {G : GG} {M : MC} (X : CX M G cX9_longestRow 4 RX9 ⟨4, 0, 0, 150⟩) (hl0 : M.2.1 = l) (hr : (mM M).sig.returnType = (some .int)) (hnm : (mM M).name = yX9_longestRow.name) {Q : State → Prop} {kc ks : Nat} {s9 : ((Int32 × Int32 × Int32) ⊕ (Int32))} {g1 : AH} {a0 : Nat} {a1 : Int32} {a3 : Int32} {s0 : Int32} (hc : ∀ s1, s9 = .inl s1 → WW M G 4 Q kc ks g1 11 [(0, .ref a0), (1, .int s1.1), (2, .int s1.2.1), (3, .int s1.2.2)] []) (hx : ∀ t, s9 = .inr t → WW M G 4 Q kc ks g1 51 [(1, .int t)] []) {g : AH} (E : x9_longestRow_j38_11 a0 a1 a3 s0 g = some (s9, g1)) : WW M G 4 Q kc ks g 38 [(0, .ref a0), (1, .int a1), (3, .int a3)] [.int s0] := by
  unfold x9_longestRow_j38_11 at E
  refine r_istore_n X 2 (L1 := [(2, .int s0), (0, .ref a0), (1, .int a1), (3, .int a3)]) dX9_longestRow_38 rfl (by decide) rfl ?_
  refine r_iload_n X 1 dX9_longestRow_39 rfl rfl ?_
  refine r_iload_n X 2 dX9_longestRow_40 rfl rfl ?_
  refine r_max X dX9_longestRow_41 m_X9_315m (by decide) (Nat.le_of_ble_eq_true rfl) ?_
  refine r_istore_n X 1 (L1 := [(1, .int (if a1 < s0 then s0 else a1)), (2, .int s0), (0, .ref a0), (3, .int a3)]) dX9_longestRow_44 rfl (by decide) rfl ?_
  refine r_iinc X (v := (a3 + 1)) (L1 := [(3, .int (a3 + 1)), (1, .int (if a1 < s0 then s0 else a1)), (2, .int s0), (0, .ref a0)]) dX9_longestRow_45 rfl rfl (by decide) rfl ?_
  refine r_goto X 11 dX9_longestRow_48 (by decide) ?_
  cases E
  exact r_pick (by rfl : lpick [(3, .int (a3 + 1)), (1, .int (if a1 < s0 then s0 else a1)), (2, .int s0), (0, .ref a0)] [3, 1, 2, 0] = _) (hc _ rfl)
set_option maxHeartbeats 4000000 in
set_option maxRecDepth 100000 in
theorem t_x9_longestRow_l11 {l : Launch} {G : GG} {M : MC} (X : CX M G cX9_longestRow 4 RX9 ⟨4, 0, 0, 150⟩) (hl0 : M.2.1 = l) (hr : (mM M).sig.returnType = (some .int)) (hnm : (mM M).name = yX9_longestRow.name) {Q : State → Prop} {kc ks : Nat} {s9 : ((Int32 × Int32 × Int32) ⊕ (Int32))} {g1 : AH} {a0 : Nat} {s0 : Int32 × Int32 × Int32} (hc : ∀ s1, s9 = .inl s1 → WW M G 4 Q kc ks g1 11 [(0, .ref a0), (1, .int s1.1), (2, .int s1.2.1), (3, .int s1.2.2)] []) (hx : ∀ t, s9 = .inr t → WW M G 4 Q kc ks g1 51 [(1, .int t)] []) {g : AH} (E : x9_longestRow_l11 a0 s0 g = some (s9, g1)) : WW M G 4 Q kc ks g 11 [(0, .ref a0), (1, .int s0.1), (2, .int s0.2.1), (3, .int s0.2.2)] [] := by
  unfold x9_longestRow_l11 at E
  refine r_iload_n X 3 dX9_longestRow_11 rfl rfl ?_
  refine r_aload_n X 0 dX9_longestRow_12 rfl rfl ?_
  obtain ⟨x1, e2, E⟩ := gb_some E
  refine r_getR X dX9_longestRow_13 f_X9_7 e2 ?_
  refine r_bipush X (v := 9) dX9_longestRow_16 (by decide) ?_
  obtain ⟨x3, e4, E⟩ := gb_some E
  refine r_iald X dX9_longestRow_18 e4 ?_
  refine r_icmp_ge X 51 dX9_longestRow_19 (by decide) (fun c5 => ?_) (fun c5 => ?_)
  · rw [if_pos c5] at E
    cases E
    exact r_pick (by rfl : lpick [(0, .ref a0), (1, .int s0.1), (2, .int s0.2.1), (3, .int s0.2.2)] [1] = _) (hx _ rfl)
  · rw [if_neg c5] at E
    refine r_aload_n X 0 dX9_longestRow_22 rfl rfl ?_
    refine r_iload_n X 3 dX9_longestRow_23 rfl rfl ?_
    obtain ⟨u9, e10, E⟩ := gb_some E
    obtain ⟨r6, g7, e8, E⟩ := cb_some E
    refine r_callV0 X hl0 (ci := 9) dX9_longestRow_24 y_X9_inBunk m_X9_83 rfl rfl e10 (t_x9_inBunk (l := l) (G := G) e8) rfl rfl (Nat.le_of_ble_eq_true rfl) (by decide) ?_
    refine r_iconst X (v := (-1)) dX9_longestRow_27 (by decide) ?_
    refine r_icmp_ne X 35 dX9_longestRow_28 (by decide) (fun c11 => ?_) (fun c11 => ?_)
    · rw [if_neg c11] at E
      refine r_iload_n X 2 dX9_longestRow_35 rfl rfl ?_
      refine r_iconst X (v := 1) dX9_longestRow_36 (by decide) ?_
      refine r_iadd X dX9_longestRow_37 ?_
      exact r_pick (by rfl : lpick [(0, .ref a0), (1, .int s0.1), (2, .int s0.2.1), (3, .int s0.2.2)] [0, 1, 3] = _) (t_x9_longestRow_j38_11 X hl0 hr hnm hc hx E)
    · rw [if_pos c11] at E
      refine r_iconst X (v := 0) dX9_longestRow_31 (by decide) ?_
      refine r_goto X 38 dX9_longestRow_32 (by decide) ?_
      exact r_pick (by rfl : lpick [(0, .ref a0), (1, .int s0.1), (2, .int s0.2.1), (3, .int s0.2.2)] [0, 1, 3] = _) (t_x9_longestRow_j38_11 X hl0 hr hnm hc hx E)
set_option maxHeartbeats 4000000 in
theorem t_x9_longestRow_l11_r {l : Launch} {G : GG} {M : MC} (X : CX M G cX9_longestRow 4 RX9 ⟨4, 0, 0, 150⟩) (hl0 : M.2.1 = l) (hr : (mM M).sig.returnType = (some .int)) (hnm : (mM M).name = yX9_longestRow.name) {Q : State → Prop} {kc ks : Nat} {a0 : Nat} : ∀ (n : Nat) (s0 : Int32 × Int32 × Int32) (g : AH) (t : (Int32)) (g1 : AH), loopX (x9_longestRow_l11 a0) n s0 g = some (t, g1) → WW M G 4 Q kc ks g1 51 [(1, .int t)] [] → WW M G 4 Q kc ks g 11 [(0, .ref a0), (1, .int s0.1), (2, .int s0.2.1), (3, .int s0.2.2)] [] :=
  loop_cps (K := fun t g1 => WW M G 4 Q kc ks g1 51 [(1, .int t)] []) (fun _ s0 g => WW M G 4 Q kc ks g 11 [(0, .ref a0), (1, .int s0.1), (2, .int s0.2.1), (3, .int s0.2.2)] []) (fun n s0 g st g1 E hc hx => t_x9_longestRow_l11 X hl0 hr hnm hc hx E)
set_option maxHeartbeats 4000000 in
set_option maxRecDepth 100000 in
theorem t_x9_longestRow_b {l : Launch} {G : GG} {M : MC} (X : CX M G cX9_longestRow 4 RX9 ⟨4, 0, 0, 150⟩) (hl0 : M.2.1 = l) (hr : (mM M).sig.returnType = (some .int)) (hnm : (mM M).name = yX9_longestRow.name) {p : Nat} {g : AH} {r : Int32} {g1 : AH} (E : x9_longestRow p g = some (r, g1)) : WW M G 4 (RQ M G (some (.int r)) g1 0 0) 0 0 g 0 [(0, .ref p)] [] := by
  unfold x9_longestRow at E
  refine r_aload_n X 0 dX9_longestRow_0 rfl rfl ?_
  refine r_iconst X (v := 0) dX9_longestRow_1 (by decide) ?_
  obtain ⟨g1, e2, E⟩ := gb_some E
  refine r_put X dX9_longestRow_2 f_X9_57 rfl rfl e2 ?_
  refine r_iconst X (v := 0) dX9_longestRow_5 (by decide) ?_
  refine r_istore_n X 1 (L1 := [(1, .int 0), (0, .ref p)]) dX9_longestRow_6 rfl (by decide) rfl ?_
  refine r_iconst X (v := 0) dX9_longestRow_7 (by decide) ?_
  refine r_istore_n X 2 (L1 := [(2, .int 0), (1, .int 0), (0, .ref p)]) dX9_longestRow_8 rfl (by decide) rfl ?_
  refine r_iconst X (v := 0) dX9_longestRow_9 (by decide) ?_
  refine r_istore_n X 3 (L1 := [(3, .int 0), (2, .int 0), (1, .int 0), (0, .ref p)]) dX9_longestRow_10 rfl (by decide) rfl ?_
  obtain ⟨t3, g4, e5, E⟩ := cb_some E
  refine r_pick (by rfl : lpick [(3, .int 0), (2, .int 0), (1, .int 0), (0, .ref p)] [3, 2, 1, 0] = _) (t_x9_longestRow_l11_r X hl0 hr hnm _ _ _ _ _ e5 ?_)
  refine r_iload_n X 1 dX9_longestRow_51 rfl rfl ?_
  cases E
  exact r_iret X hr dX9_longestRow_52 (by decide) (by decide)
theorem t_x9_longestRow {l : Launch} {G : GG} {p : Nat} {g : AH} {r : Int32} {g1 : AH} (E : x9_longestRow p g = some (r, g1)) : Ct l G yX9_longestRow cX9_longestRow 4 (some .int) ⟨4, 0, 0, 150⟩ [.ref p] g (some (.int r)) g1 :=
  ct_of (L0 := [(0, .ref p)]) y_X9_longestRow rfl (Nat.le_of_ble_eq_true rfl) fun M hl0 X hr hnm => t_x9_longestRow_b X hl0 hr hnm E
set_option maxHeartbeats 4000000 in
set_option maxRecDepth 100000 in
theorem t_x9_sleepersWith_b {l : Launch} {G : GG} {M : MC} (X : CX M G cX9_sleepersWith 3 RX9 ⟨11, 0, 0, 278⟩) (hl0 : M.2.1 = l) (hr : (mM M).sig.returnType = (some .int)) (hnm : (mM M).name = yX9_sleepersWith.name) {p : Nat} {b0 : Int32} {b1 : Int32} {g : AH} {r : Int32} {g1 : AH} (E : x9_sleepersWith p b0 b1 g = some (r, g1)) : WW M G 3 (RQ M G (some (.int r)) g1 0 0) 0 0 g 0 [(0, .ref p), (1, .int b0), (2, .int b1)] [] := by
  unfold x9_sleepersWith at E
  refine r_aload_n X 0 dX9_sleepersWith_0 rfl rfl ?_
  refine r_iload_n X 1 dX9_sleepersWith_1 rfl rfl ?_
  refine r_iconst X (v := 4) dX9_sleepersWith_2 (by decide) ?_
  refine r_iload_n X 2 dX9_sleepersWith_3 rfl rfl ?_
  obtain ⟨u4, e5, E⟩ := gb_some E
  obtain ⟨r1, g2, e3, E⟩ := cb_some E
  refine r_callV0 X hl0 (ci := 9) dX9_sleepersWith_4 y_X9_set m_X9_54 rfl rfl e5 (t_x9_set (l := l) (G := G) e3) rfl rfl (Nat.le_of_ble_eq_true rfl) (by decide) ?_
  refine r_aload_n X 0 dX9_sleepersWith_7 rfl rfl ?_
  refine r_iconst X (v := 2) dX9_sleepersWith_8 (by decide) ?_
  obtain ⟨u9, e10, E⟩ := gb_some E
  obtain ⟨r6, g7, e8, E⟩ := cb_some E
  refine r_callV0 X hl0 (ci := 9) dX9_sleepersWith_9 y_X9_countDeed m_X9_318 rfl rfl e10 (t_x9_countDeed (l := l) (G := G) e8) rfl rfl (Nat.le_of_ble_eq_true rfl) (by decide) ?_
  cases E
  exact r_iret X hr dX9_sleepersWith_12 (by decide) (by decide)
theorem t_x9_sleepersWith {l : Launch} {G : GG} {p : Nat} {b0 : Int32} {b1 : Int32} {g : AH} {r : Int32} {g1 : AH} (E : x9_sleepersWith p b0 b1 g = some (r, g1)) : Ct l G yX9_sleepersWith cX9_sleepersWith 3 (some .int) ⟨11, 0, 0, 278⟩ [.ref p, .int b0, .int b1] g (some (.int r)) g1 :=
  ct_of (L0 := [(0, .ref p), (1, .int b0), (2, .int b1)]) y_X9_sleepersWith rfl (Nat.le_of_ble_eq_true rfl) fun M hl0 X hr hnm => t_x9_sleepersWith_b X hl0 hr hnm E
set_option maxHeartbeats 4000000 in
set_option maxRecDepth 100000 in
theorem t_x9_sleepersIf_b {l : Launch} {G : GG} {M : MC} (X : CX M G cX9_sleepersIf 3 RX9 ⟨12, 0, 0, 300⟩) (hl0 : M.2.1 = l) (hr : (mM M).sig.returnType = (some .int)) (hnm : (mM M).name = yX9_sleepersIf.name) {p : Nat} {b0 : Int32} {b1 : Int32} {g : AH} {r : Int32} {g1 : AH} (E : x9_sleepersIf p b0 b1 g = some (r, g1)) : WW M G 3 (RQ M G (some (.int r)) g1 0 0) 0 0 g 0 [(0, .ref p), (1, .int b0), (2, .int b1)] [] := by
  unfold x9_sleepersIf at E
  refine r_aload_n X 0 dX9_sleepersIf_0 rfl rfl ?_
  obtain ⟨u4, e5, E⟩ := gb_some E
  obtain ⟨r1, g2, e3, E⟩ := cb_some E
  refine r_callV0 X hl0 (ci := 9) dX9_sleepersIf_1 y_X9_goAside m_X9_229 rfl rfl e5 (t_x9_goAside (l := l) (G := G) e3) rfl rfl (Nat.le_of_ble_eq_true rfl) (by decide) ?_
  refine r_aload_n X 0 dX9_sleepersIf_4 rfl rfl ?_
  refine r_aload_n X 0 dX9_sleepersIf_5 rfl rfl ?_
  refine r_iload_n X 1 dX9_sleepersIf_6 rfl rfl ?_
  refine r_iload_n X 2 dX9_sleepersIf_7 rfl rfl ?_
  obtain ⟨u9, e10, E⟩ := gb_some E
  obtain ⟨r6, g7, e8, E⟩ := cb_some E
  refine r_callV0 X hl0 (ci := 9) dX9_sleepersIf_8 y_X9_sleepersWith m_X9_321 rfl rfl e10 (t_x9_sleepersWith (l := l) (G := G) e8) rfl rfl (Nat.le_of_ble_eq_true rfl) (by decide) ?_
  obtain ⟨u14, e15, E⟩ := gb_some E
  obtain ⟨r11, g12, e13, E⟩ := cb_some E
  refine r_callV0 X hl0 (ci := 9) dX9_sleepersIf_11 y_X9_comeBack m_X9_238 rfl rfl e15 (t_x9_comeBack (l := l) (G := G) e13) rfl rfl (Nat.le_of_ble_eq_true rfl) (by decide) ?_
  cases E
  exact r_iret X hr dX9_sleepersIf_14 (by decide) (by decide)
theorem t_x9_sleepersIf {l : Launch} {G : GG} {p : Nat} {b0 : Int32} {b1 : Int32} {g : AH} {r : Int32} {g1 : AH} (E : x9_sleepersIf p b0 b1 g = some (r, g1)) : Ct l G yX9_sleepersIf cX9_sleepersIf 3 (some .int) ⟨12, 0, 0, 300⟩ [.ref p, .int b0, .int b1] g (some (.int r)) g1 :=
  ct_of (L0 := [(0, .ref p), (1, .int b0), (2, .int b1)]) y_X9_sleepersIf rfl (Nat.le_of_ble_eq_true rfl) fun M hl0 X hr hnm => t_x9_sleepersIf_b X hl0 hr hnm E
set_option maxHeartbeats 4000000 in
set_option maxRecDepth 100000 in
theorem t_x9_isFreeFor_j18 {l : Launch} {G : GG} {M : MC} (X : CX M G cX9_isFreeFor 3 RX9 ⟨4, 0, 0, 126⟩) (hl0 : M.2.1 = l) (hr : (mM M).sig.returnType = (some .boolean)) (hnm : (mM M).name = yX9_isFreeFor.name)  {g : AH} {r : Int32} {g1 : AH} (E : x9_isFreeFor_j18  g = some (r, g1)) : WW M G 3 (RQ M G (some (.int r)) g1 0 0) 0 0 g 18 [] [] := by
  unfold x9_isFreeFor_j18 at E
  refine r_iconst X (v := 1) dX9_isFreeFor_18 (by decide) ?_
  refine r_goto X 23 dX9_isFreeFor_19 (by decide) ?_
  cases E
  exact r_zret X hr (Or.inr rfl) dX9_isFreeFor_23 (by decide) (by decide)
set_option maxHeartbeats 4000000 in
set_option maxRecDepth 100000 in
theorem t_x9_isFreeFor_b {l : Launch} {G : GG} {M : MC} (X : CX M G cX9_isFreeFor 3 RX9 ⟨4, 0, 0, 126⟩) (hl0 : M.2.1 = l) (hr : (mM M).sig.returnType = (some .boolean)) (hnm : (mM M).name = yX9_isFreeFor.name) {p : Nat} {b0 : Int32} {b1 : Int32} {g : AH} {r : Int32} {g1 : AH} (E : x9_isFreeFor p b0 b1 g = some (r, g1)) : WW M G 3 (RQ M G (some (.int r)) g1 0 0) 0 0 g 0 [(0, .ref p), (1, .int b0), (2, .int b1)] [] := by
  unfold x9_isFreeFor at E
  refine r_aload_n X 0 dX9_isFreeFor_0 rfl rfl ?_
  refine r_iload_n X 2 dX9_isFreeFor_1 rfl rfl ?_
  obtain ⟨u4, e5, E⟩ := gb_some E
  obtain ⟨r1, g2, e3, E⟩ := cb_some E
  refine r_callV0 X hl0 (ci := 9) dX9_isFreeFor_2 y_X9_inBunk m_X9_83 rfl rfl e5 (t_x9_inBunk (l := l) (G := G) e3) rfl rfl (Nat.le_of_ble_eq_true rfl) (by decide) ?_
  refine r_iconst X (v := (-1)) dX9_isFreeFor_5 (by decide) ?_
  refine r_icmp_eq X 18 dX9_isFreeFor_6 (by decide) (fun c6 => ?_) (fun c6 => ?_)
  · rw [if_pos c6] at E
    exact r_pick (by rfl : lpick [(0, .ref p), (1, .int b0), (2, .int b1)] [] = _) (t_x9_isFreeFor_j18 X hl0 hr hnm E)
  · rw [if_neg c6] at E
    refine r_aload_n X 0 dX9_isFreeFor_9 rfl rfl ?_
    refine r_iload_n X 2 dX9_isFreeFor_10 rfl rfl ?_
    obtain ⟨u10, e11, E⟩ := gb_some E
    obtain ⟨r7, g8, e9, E⟩ := cb_some E
    refine r_callV0 X hl0 (ci := 9) dX9_isFreeFor_11 y_X9_inBunk m_X9_83 rfl rfl e11 (t_x9_inBunk (l := l) (G := G) e9) rfl rfl (Nat.le_of_ble_eq_true rfl) (by decide) ?_
    refine r_iload_n X 1 dX9_isFreeFor_14 rfl rfl ?_
    refine r_icmp_ne X 22 dX9_isFreeFor_15 (by decide) (fun c12 => ?_) (fun c12 => ?_)
    · rw [if_neg c12] at E
      refine r_iconst X (v := 0) dX9_isFreeFor_22 (by decide) ?_
      cases E
      exact r_zret X hr (Or.inl rfl) dX9_isFreeFor_23 (by decide) (by decide)
    · rw [if_pos c12] at E
      exact r_pick (by rfl : lpick [(0, .ref p), (1, .int b0), (2, .int b1)] [] = _) (t_x9_isFreeFor_j18 X hl0 hr hnm E)
theorem t_x9_isFreeFor {l : Launch} {G : GG} {p : Nat} {b0 : Int32} {b1 : Int32} {g : AH} {r : Int32} {g1 : AH} (E : x9_isFreeFor p b0 b1 g = some (r, g1)) : Ct l G yX9_isFreeFor cX9_isFreeFor 3 (some .boolean) ⟨4, 0, 0, 126⟩ [.ref p, .int b0, .int b1] g (some (.int r)) g1 :=
  ct_of (L0 := [(0, .ref p), (1, .int b0), (2, .int b1)]) y_X9_isFreeFor rfl (Nat.le_of_ble_eq_true rfl) fun M hl0 X hr hnm => t_x9_isFreeFor_b X hl0 hr hnm E
set_option maxHeartbeats 4000000 in
set_option maxRecDepth 100000 in
theorem t_x9_bestPlaceFor_j78_31 {l : Launch} {G : GG} {M : MC} (X : CX M G cX9_bestPlaceFor 6 RX9 ⟨13, 0, 0, 322⟩) (hl0 : M.2.1 = l) (hr : (mM M).sig.returnType = (some .int)) (hnm : (mM M).name = yX9_bestPlaceFor.name) {Q : State → Prop} {kc ks : Nat} {s9 : ((Int32 × Int32 × Int32) ⊕ (Int32))} {g1 : AH} {a0 : Nat} {a1 : Int32} {a3 : Int32} {a4 : Int32} {a5 : Int32} {s0 : Int32} (hc : ∀ s1, s9 = .inl s1 → WW M G 6 Q kc ks g1 31 [(0, .ref a0), (1, .int a1), (2, .int s1.1), (3, .int s1.2.1), (4, .int s1.2.2)] []) (hx : ∀ t, s9 = .inr t → WW M G 6 Q kc ks g1 92 [(2, .int t)] []) {g : AH} (E : x9_bestPlaceFor_j78_31 a0 a1 a3 a4 a5 s0 g = some (s9, g1)) : WW M G 6 Q kc ks g 78 [(0, .ref a0), (1, .int a1), (3, .int a3), (4, .int a4), (5, .int a5)] [.int s0] := by
  unfold x9_bestPlaceFor_j78_31 at E
  refine r_istore_n X 2 (L1 := [(2, .int s0), (0, .ref a0), (1, .int a1), (3, .int a3), (4, .int a4), (5, .int a5)]) dX9_bestPlaceFor_78 rfl (by decide) rfl ?_
  refine r_iload_n X 3 dX9_bestPlaceFor_79 rfl rfl ?_
  refine r_iload X dX9_bestPlaceFor_80 rfl ?_
  refine r_max X dX9_bestPlaceFor_82 m_X9_315m (by decide) (Nat.le_of_ble_eq_true rfl) ?_
  refine r_istore_n X 3 (L1 := [(3, .int (if a3 < a5 then a5 else a3)), (2, .int s0), (0, .ref a0), (1, .int a1), (4, .int a4), (5, .int a5)]) dX9_bestPlaceFor_85 rfl (by decide) rfl ?_
  refine r_iinc X (v := (a4 + 1)) (L1 := [(4, .int (a4 + 1)), (3, .int (if a3 < a5 then a5 else a3)), (2, .int s0), (0, .ref a0), (1, .int a1), (5, .int a5)]) dX9_bestPlaceFor_86 rfl rfl (by decide) rfl ?_
  refine r_goto X 31 dX9_bestPlaceFor_89 (by decide) ?_
  cases E
  exact r_pick (by rfl : lpick [(4, .int (a4 + 1)), (3, .int (if a3 < a5 then a5 else a3)), (2, .int s0), (0, .ref a0), (1, .int a1), (5, .int a5)] [3, 4, 2, 1, 0] = _) (hc _ rfl)
set_option maxHeartbeats 4000000 in
set_option maxRecDepth 100000 in
theorem t_x9_bestPlaceFor_j64_31 {l : Launch} {G : GG} {M : MC} (X : CX M G cX9_bestPlaceFor 6 RX9 ⟨13, 0, 0, 322⟩) (hl0 : M.2.1 = l) (hr : (mM M).sig.returnType = (some .int)) (hnm : (mM M).name = yX9_bestPlaceFor.name) {Q : State → Prop} {kc ks : Nat} {s9 : ((Int32 × Int32 × Int32) ⊕ (Int32))} {g1 : AH} {a0 : Nat} {a1 : Int32} {a2 : Int32} {a3 : Int32} {a4 : Int32} {s0 : Int32} (hc : ∀ s1, s9 = .inl s1 → WW M G 6 Q kc ks g1 31 [(0, .ref a0), (1, .int a1), (2, .int s1.1), (3, .int s1.2.1), (4, .int s1.2.2)] []) (hx : ∀ t, s9 = .inr t → WW M G 6 Q kc ks g1 92 [(2, .int t)] []) {g : AH} (E : x9_bestPlaceFor_j64_31 a0 a1 a2 a3 a4 s0 g = some (s9, g1)) : WW M G 6 Q kc ks g 64 [(0, .ref a0), (1, .int a1), (2, .int a2), (3, .int a3), (4, .int a4)] [.int s0] := by
  unfold x9_bestPlaceFor_j64_31 at E
  refine r_istore X (L1 := [(5, .int s0), (0, .ref a0), (1, .int a1), (2, .int a2), (3, .int a3), (4, .int a4)]) dX9_bestPlaceFor_64 (by decide) rfl ?_
  refine r_iload X dX9_bestPlaceFor_66 rfl ?_
  refine r_iload_n X 3 dX9_bestPlaceFor_68 rfl rfl ?_
  refine r_icmp_le X 77 dX9_bestPlaceFor_69 (by decide) (fun c1 => ?_) (fun c1 => ?_)
  · rw [if_pos c1] at E
    refine r_iload_n X 2 dX9_bestPlaceFor_77 rfl rfl ?_
    exact r_pick (by rfl : lpick [(5, .int s0), (0, .ref a0), (1, .int a1), (2, .int a2), (3, .int a3), (4, .int a4)] [1, 2, 4, 5, 0] = _) (t_x9_bestPlaceFor_j78_31 X hl0 hr hnm hc hx E)
  · rw [if_neg c1] at E
    refine r_iload X dX9_bestPlaceFor_72 rfl ?_
    refine r_goto X 78 dX9_bestPlaceFor_74 (by decide) ?_
    exact r_pick (by rfl : lpick [(5, .int s0), (0, .ref a0), (1, .int a1), (2, .int a2), (3, .int a3), (4, .int a4)] [1, 2, 4, 5, 0] = _) (t_x9_bestPlaceFor_j78_31 X hl0 hr hnm hc hx E)
set_option maxHeartbeats 4000000 in
set_option maxRecDepth 100000 in
theorem t_x9_bestPlaceFor_l31 {l : Launch} {G : GG} {M : MC} (X : CX M G cX9_bestPlaceFor 6 RX9 ⟨13, 0, 0, 322⟩) (hl0 : M.2.1 = l) (hr : (mM M).sig.returnType = (some .int)) (hnm : (mM M).name = yX9_bestPlaceFor.name) {Q : State → Prop} {kc ks : Nat} {s9 : ((Int32 × Int32 × Int32) ⊕ (Int32))} {g1 : AH} {a0 : Nat} {a1 : Int32} {s0 : Int32 × Int32 × Int32} (hc : ∀ s1, s9 = .inl s1 → WW M G 6 Q kc ks g1 31 [(0, .ref a0), (1, .int a1), (2, .int s1.1), (3, .int s1.2.1), (4, .int s1.2.2)] []) (hx : ∀ t, s9 = .inr t → WW M G 6 Q kc ks g1 92 [(2, .int t)] []) {g : AH} (E : x9_bestPlaceFor_l31 a0 a1 s0 g = some (s9, g1)) : WW M G 6 Q kc ks g 31 [(0, .ref a0), (1, .int a1), (2, .int s0.1), (3, .int s0.2.1), (4, .int s0.2.2)] [] := by
  unfold x9_bestPlaceFor_l31 at E
  refine r_iload X dX9_bestPlaceFor_31 rfl ?_
  refine r_aload_n X 0 dX9_bestPlaceFor_33 rfl rfl ?_
  obtain ⟨x1, e2, E⟩ := gb_some E
  refine r_getR X dX9_bestPlaceFor_34 f_X9_7 e2 ?_
  refine r_bipush X (v := 9) dX9_bestPlaceFor_37 (by decide) ?_
  obtain ⟨x3, e4, E⟩ := gb_some E
  refine r_iald X dX9_bestPlaceFor_39 e4 ?_
  refine r_icmp_ge X 92 dX9_bestPlaceFor_40 (by decide) (fun c5 => ?_) (fun c5 => ?_)
  · rw [if_pos c5] at E
    cases E
    exact r_pick (by rfl : lpick [(0, .ref a0), (1, .int a1), (2, .int s0.1), (3, .int s0.2.1), (4, .int s0.2.2)] [2] = _) (hx _ rfl)
  · rw [if_neg c5] at E
    refine r_aload_n X 0 dX9_bestPlaceFor_43 rfl rfl ?_
    refine r_iload_n X 1 dX9_bestPlaceFor_44 rfl rfl ?_
    refine r_iload X dX9_bestPlaceFor_45 rfl ?_
    obtain ⟨u9, e10, E⟩ := gb_some E
    obtain ⟨r6, g7, e8, E⟩ := cb_some E
    refine r_callV0 X hl0 (ci := 9) dX9_bestPlaceFor_47 y_X9_isFreeFor m_X9_330 rfl rfl e10 (t_x9_isFreeFor (l := l) (G := G) e8) rfl rfl (Nat.le_of_ble_eq_true rfl) (by decide) ?_
    refine r_if_eq X 63 dX9_bestPlaceFor_50 (by decide) (fun c11 => ?_) (fun c11 => ?_)
    · rw [if_pos c11] at E
      refine r_iconst X (v := 0) dX9_bestPlaceFor_63 (by decide) ?_
      exact r_pick (by rfl : lpick [(0, .ref a0), (1, .int a1), (2, .int s0.1), (3, .int s0.2.1), (4, .int s0.2.2)] [0, 1, 2, 3, 4] = _) (t_x9_bestPlaceFor_j64_31 X hl0 hr hnm hc hx E)
    · rw [if_neg c11] at E
      refine r_aload_n X 0 dX9_bestPlaceFor_53 rfl rfl ?_
      refine r_iload_n X 1 dX9_bestPlaceFor_54 rfl rfl ?_
      refine r_iload X dX9_bestPlaceFor_55 rfl ?_
      obtain ⟨u15, e16, E⟩ := gb_some E
      obtain ⟨r12, g13, e14, E⟩ := cb_some E
      refine r_callV0 X hl0 (ci := 9) dX9_bestPlaceFor_57 y_X9_sleepersIf m_X9_327 rfl rfl e16 (t_x9_sleepersIf (l := l) (G := G) e14) rfl rfl (Nat.le_of_ble_eq_true rfl) (by decide) ?_
      refine r_goto X 64 dX9_bestPlaceFor_60 (by decide) ?_
      exact r_pick (by rfl : lpick [(0, .ref a0), (1, .int a1), (2, .int s0.1), (3, .int s0.2.1), (4, .int s0.2.2)] [0, 1, 2, 3, 4] = _) (t_x9_bestPlaceFor_j64_31 X hl0 hr hnm hc hx E)
set_option maxHeartbeats 4000000 in
theorem t_x9_bestPlaceFor_l31_r {l : Launch} {G : GG} {M : MC} (X : CX M G cX9_bestPlaceFor 6 RX9 ⟨13, 0, 0, 322⟩) (hl0 : M.2.1 = l) (hr : (mM M).sig.returnType = (some .int)) (hnm : (mM M).name = yX9_bestPlaceFor.name) {Q : State → Prop} {kc ks : Nat} {a0 : Nat} {a1 : Int32} : ∀ (n : Nat) (s0 : Int32 × Int32 × Int32) (g : AH) (t : (Int32)) (g1 : AH), loopX (x9_bestPlaceFor_l31 a0 a1) n s0 g = some (t, g1) → WW M G 6 Q kc ks g1 92 [(2, .int t)] [] → WW M G 6 Q kc ks g 31 [(0, .ref a0), (1, .int a1), (2, .int s0.1), (3, .int s0.2.1), (4, .int s0.2.2)] [] :=
  loop_cps (K := fun t g1 => WW M G 6 Q kc ks g1 92 [(2, .int t)] []) (fun _ s0 g => WW M G 6 Q kc ks g 31 [(0, .ref a0), (1, .int a1), (2, .int s0.1), (3, .int s0.2.1), (4, .int s0.2.2)] []) (fun n s0 g st g1 E hc hx => t_x9_bestPlaceFor_l31 X hl0 hr hnm hc hx E)
set_option maxHeartbeats 4000000 in
set_option maxRecDepth 100000 in
theorem t_x9_bestPlaceFor_b {l : Launch} {G : GG} {M : MC} (X : CX M G cX9_bestPlaceFor 6 RX9 ⟨13, 0, 0, 322⟩) (hl0 : M.2.1 = l) (hr : (mM M).sig.returnType = (some .int)) (hnm : (mM M).name = yX9_bestPlaceFor.name) {p : Nat} {b0 : Int32} {g : AH} {r : Int32} {g1 : AH} (E : x9_bestPlaceFor p b0 g = some (r, g1)) : WW M G 6 (RQ M G (some (.int r)) g1 0 0) 0 0 g 0 [(0, .ref p), (1, .int b0)] [] := by
  unfold x9_bestPlaceFor at E
  refine r_aload_n X 0 dX9_bestPlaceFor_0 rfl rfl ?_
  refine r_iconst X (v := 0) dX9_bestPlaceFor_1 (by decide) ?_
  obtain ⟨g1, e2, E⟩ := gb_some E
  refine r_put X dX9_bestPlaceFor_2 f_X9_57 rfl rfl e2 ?_
  refine r_aload_n X 0 dX9_bestPlaceFor_5 rfl rfl ?_
  refine r_iload_n X 1 dX9_bestPlaceFor_6 rfl rfl ?_
  obtain ⟨u6, e7, E⟩ := gb_some E
  obtain ⟨r3, g4, e5, E⟩ := cb_some E
  refine r_callV0 X hl0 (ci := 9) dX9_bestPlaceFor_7 y_X9_isHiker m_X9_324 rfl rfl e7 (t_x9_isHiker (l := l) (G := G) e5) rfl rfl (Nat.le_of_ble_eq_true rfl) (by decide) ?_
  refine r_if_ne X 19 dX9_bestPlaceFor_10 (by decide) (fun c8 => ?_) (fun c8 => ?_)
  · rw [if_neg c8] at E
    refine r_iconst X (v := (-1)) dX9_bestPlaceFor_19 (by decide) ?_
    refine r_istore_n X 2 (L1 := [(2, .int (-1)), (0, .ref p), (1, .int b0)]) dX9_bestPlaceFor_20 rfl (by decide) rfl ?_
    refine r_aload_n X 0 dX9_bestPlaceFor_21 rfl rfl ?_
    refine r_iload_n X 1 dX9_bestPlaceFor_22 rfl rfl ?_
    refine r_iconst X (v := (-1)) dX9_bestPlaceFor_23 (by decide) ?_
    obtain ⟨u12, e13, E⟩ := gb_some E
    obtain ⟨r9, g10, e11, E⟩ := cb_some E
    refine r_callV0 X hl0 (ci := 9) dX9_bestPlaceFor_24 y_X9_sleepersIf m_X9_327 rfl rfl e13 (t_x9_sleepersIf (l := l) (G := G) e11) rfl rfl (Nat.le_of_ble_eq_true rfl) (by decide) ?_
    refine r_istore_n X 3 (L1 := [(3, .int r9), (2, .int (-1)), (0, .ref p), (1, .int b0)]) dX9_bestPlaceFor_27 rfl (by decide) rfl ?_
    refine r_iconst X (v := 0) dX9_bestPlaceFor_28 (by decide) ?_
    refine r_istore X (L1 := [(4, .int 0), (3, .int r9), (2, .int (-1)), (0, .ref p), (1, .int b0)]) dX9_bestPlaceFor_29 (by decide) rfl ?_
    obtain ⟨t14, g15, e16, E⟩ := cb_some E
    refine r_pick (by rfl : lpick [(4, .int 0), (3, .int r9), (2, .int (-1)), (0, .ref p), (1, .int b0)] [3, 4, 2, 1, 0] = _) (t_x9_bestPlaceFor_l31_r X hl0 hr hnm _ _ _ _ _ e16 ?_)
    refine r_iload_n X 2 dX9_bestPlaceFor_92 rfl rfl ?_
    cases E
    exact r_iret X hr dX9_bestPlaceFor_93 (by decide) (by decide)
  · rw [if_pos c8] at E
    refine r_aload_n X 0 dX9_bestPlaceFor_13 rfl rfl ?_
    refine r_iconst X (v := 1) dX9_bestPlaceFor_14 (by decide) ?_
    obtain ⟨u20, e21, E⟩ := gb_some E
    obtain ⟨r17, g18, e19, E⟩ := cb_some E
    refine r_callV0 X hl0 (ci := 9) dX9_bestPlaceFor_15 y_X9_fail m_X9_141 rfl rfl e21 (t_x9_fail (l := l) (G := G) e19) rfl rfl (Nat.le_of_ble_eq_true rfl) (by decide) ?_
    cases E
    exact r_iret X hr dX9_bestPlaceFor_18 (by decide) (by decide)
theorem t_x9_bestPlaceFor {l : Launch} {G : GG} {p : Nat} {b0 : Int32} {g : AH} {r : Int32} {g1 : AH} (E : x9_bestPlaceFor p b0 g = some (r, g1)) : Ct l G yX9_bestPlaceFor cX9_bestPlaceFor 6 (some .int) ⟨13, 0, 0, 322⟩ [.ref p, .int b0] g (some (.int r)) g1 :=
  ct_of (L0 := [(0, .ref p), (1, .int b0)]) y_X9_bestPlaceFor rfl (Nat.le_of_ble_eq_true rfl) fun M hl0 X hr hnm => t_x9_bestPlaceFor_b X hl0 hr hnm E
set_option maxHeartbeats 4000000 in
set_option maxRecDepth 100000 in
theorem t_x9_userOf_b {l : Launch} {G : GG} {M : MC} (X : CX M G cX9_userOf 2 RX9 ⟨3, 0, 0, 105⟩) (hl0 : M.2.1 = l) (hr : (mM M).sig.returnType = (some .int)) (hnm : (mM M).name = yX9_userOf.name) {p : Nat} {b0 : Int32} {g : AH} {r : Int32} {g1 : AH} (E : x9_userOf p b0 g = some (r, g1)) : WW M G 2 (RQ M G (some (.int r)) g1 0 0) 0 0 g 0 [(0, .ref p), (1, .int b0)] [] := by
  unfold x9_userOf at E
  refine r_aload_n X 0 dX9_userOf_0 rfl rfl ?_
  refine r_iconst X (v := 0) dX9_userOf_1 (by decide) ?_
  obtain ⟨g1, e2, E⟩ := gb_some E
  refine r_put X dX9_userOf_2 f_X9_57 rfl rfl e2 ?_
  refine r_aload_n X 0 dX9_userOf_5 rfl rfl ?_
  refine r_iload_n X 1 dX9_userOf_6 rfl rfl ?_
  obtain ⟨u6, e7, E⟩ := gb_some E
  obtain ⟨r3, g4, e5, E⟩ := cb_some E
  refine r_callV0 X hl0 (ci := 9) dX9_userOf_7 y_X9_isBlanket m_X9_333 rfl rfl e7 (t_x9_isBlanket (l := l) (G := G) e5) rfl rfl (Nat.le_of_ble_eq_true rfl) (by decide) ?_
  refine r_if_eq X 22 dX9_userOf_10 (by decide) (fun c8 => ?_) (fun c8 => ?_)
  · rw [if_pos c8] at E
    refine r_aload_n X 0 dX9_userOf_22 rfl rfl ?_
    refine r_iconst X (v := 1) dX9_userOf_23 (by decide) ?_
    obtain ⟨u12, e13, E⟩ := gb_some E
    obtain ⟨r9, g10, e11, E⟩ := cb_some E
    refine r_callV0 X hl0 (ci := 9) dX9_userOf_24 y_X9_fail m_X9_141 rfl rfl e13 (t_x9_fail (l := l) (G := G) e11) rfl rfl (Nat.le_of_ble_eq_true rfl) (by decide) ?_
    cases E
    exact r_iret X hr dX9_userOf_27 (by decide) (by decide)
  · rw [if_neg c8] at E
    refine r_aload_n X 0 dX9_userOf_13 rfl rfl ?_
    refine r_iconst X (v := 5) dX9_userOf_14 (by decide) ?_
    refine r_iload_n X 1 dX9_userOf_15 rfl rfl ?_
    obtain ⟨u17, e18, E⟩ := gb_some E
    obtain ⟨r14, g15, e16, E⟩ := cb_some E
    refine r_callV0 X hl0 (ci := 9) dX9_userOf_16 y_X9_hikerWith m_X9_76 rfl rfl e18 (t_x9_hikerWith (l := l) (G := G) e16) rfl rfl (Nat.le_of_ble_eq_true rfl) (by decide) ?_
    refine r_goto X 27 dX9_userOf_19 (by decide) ?_
    cases E
    exact r_iret X hr dX9_userOf_27 (by decide) (by decide)
theorem t_x9_userOf {l : Launch} {G : GG} {p : Nat} {b0 : Int32} {g : AH} {r : Int32} {g1 : AH} (E : x9_userOf p b0 g = some (r, g1)) : Ct l G yX9_userOf cX9_userOf 2 (some .int) ⟨3, 0, 0, 105⟩ [.ref p, .int b0] g (some (.int r)) g1 :=
  ct_of (L0 := [(0, .ref p), (1, .int b0)]) y_X9_userOf rfl (Nat.le_of_ble_eq_true rfl) fun M hl0 X hr hnm => t_x9_userOf_b X hl0 hr hnm E
set_option maxHeartbeats 4000000 in
set_option maxRecDepth 100000 in
theorem t_x9_countPile_j29_4 {l : Launch} {G : GG} {M : MC} (X : CX M G cX9_countPile 3 RX9 ⟨4, 0, 0, 126⟩) (hl0 : M.2.1 = l) (hr : (mM M).sig.returnType = (some .int)) (hnm : (mM M).name = yX9_countPile.name) {Q : State → Prop} {kc ks : Nat} {s9 : ((Int32 × Int32) ⊕ (Int32))} {g1 : AH} {a0 : Nat} {a2 : Int32} {s0 : Int32} {s1 : Int32} (hc : ∀ s1, s9 = .inl s1 → WW M G 3 Q kc ks g1 4 [(0, .ref a0), (1, .int s1.1), (2, .int s1.2)] []) (hx : ∀ t, s9 = .inr t → WW M G 3 Q kc ks g1 37 [(1, .int t)] []) {g : AH} (E : x9_countPile_j29_4 a0 a2 s0 s1 g = some (s9, g1)) : WW M G 3 Q kc ks g 29 [(0, .ref a0), (2, .int a2)] [.int s0, .int s1] := by
  unfold x9_countPile_j29_4 at E
  refine r_iadd X dX9_countPile_29 ?_
  refine r_istore_n X 1 (L1 := [(1, .int (s1 + s0)), (0, .ref a0), (2, .int a2)]) dX9_countPile_30 rfl (by decide) rfl ?_
  refine r_iinc X (v := (a2 + 1)) (L1 := [(2, .int (a2 + 1)), (1, .int (s1 + s0)), (0, .ref a0)]) dX9_countPile_31 rfl rfl (by decide) rfl ?_
  refine r_goto X 4 dX9_countPile_34 (by decide) ?_
  cases E
  exact r_pick (by rfl : lpick [(2, .int (a2 + 1)), (1, .int (s1 + s0)), (0, .ref a0)] [2, 1, 0] = _) (hc _ rfl)
set_option maxHeartbeats 4000000 in
set_option maxRecDepth 100000 in
theorem t_x9_countPile_l4 {l : Launch} {G : GG} {M : MC} (X : CX M G cX9_countPile 3 RX9 ⟨4, 0, 0, 126⟩) (hl0 : M.2.1 = l) (hr : (mM M).sig.returnType = (some .int)) (hnm : (mM M).name = yX9_countPile.name) {Q : State → Prop} {kc ks : Nat} {s9 : ((Int32 × Int32) ⊕ (Int32))} {g1 : AH} {a0 : Nat} {s0 : Int32 × Int32} (hc : ∀ s1, s9 = .inl s1 → WW M G 3 Q kc ks g1 4 [(0, .ref a0), (1, .int s1.1), (2, .int s1.2)] []) (hx : ∀ t, s9 = .inr t → WW M G 3 Q kc ks g1 37 [(1, .int t)] []) {g : AH} (E : x9_countPile_l4 a0 s0 g = some (s9, g1)) : WW M G 3 Q kc ks g 4 [(0, .ref a0), (1, .int s0.1), (2, .int s0.2)] [] := by
  unfold x9_countPile_l4 at E
  refine r_iload_n X 2 dX9_countPile_4 rfl rfl ?_
  refine r_aload_n X 0 dX9_countPile_5 rfl rfl ?_
  obtain ⟨x1, e2, E⟩ := gb_some E
  refine r_getR X dX9_countPile_6 f_X9_7 e2 ?_
  refine r_bipush X (v := 10) dX9_countPile_9 (by decide) ?_
  obtain ⟨x3, e4, E⟩ := gb_some E
  refine r_iald X dX9_countPile_11 e4 ?_
  refine r_icmp_ge X 37 dX9_countPile_12 (by decide) (fun c5 => ?_) (fun c5 => ?_)
  · rw [if_pos c5] at E
    cases E
    exact r_pick (by rfl : lpick [(0, .ref a0), (1, .int s0.1), (2, .int s0.2)] [1] = _) (hx _ rfl)
  · rw [if_neg c5] at E
    refine r_iload_n X 1 dX9_countPile_15 rfl rfl ?_
    refine r_aload_n X 0 dX9_countPile_16 rfl rfl ?_
    refine r_iload_n X 2 dX9_countPile_17 rfl rfl ?_
    obtain ⟨u9, e10, E⟩ := gb_some E
    obtain ⟨r6, g7, e8, E⟩ := cb_some E
    refine r_callV0 X hl0 (ci := 9) dX9_countPile_18 y_X9_isOnPile m_X9_336 rfl rfl e10 (t_x9_isOnPile (l := l) (G := G) e8) rfl rfl (Nat.le_of_ble_eq_true rfl) (by decide) ?_
    refine r_if_eq X 28 dX9_countPile_21 (by decide) (fun c11 => ?_) (fun c11 => ?_)
    · rw [if_pos c11] at E
      refine r_iconst X (v := 0) dX9_countPile_28 (by decide) ?_
      exact r_pick (by rfl : lpick [(0, .ref a0), (1, .int s0.1), (2, .int s0.2)] [0, 2] = _) (t_x9_countPile_j29_4 X hl0 hr hnm hc hx E)
    · rw [if_neg c11] at E
      refine r_iconst X (v := 1) dX9_countPile_24 (by decide) ?_
      refine r_goto X 29 dX9_countPile_25 (by decide) ?_
      exact r_pick (by rfl : lpick [(0, .ref a0), (1, .int s0.1), (2, .int s0.2)] [0, 2] = _) (t_x9_countPile_j29_4 X hl0 hr hnm hc hx E)
set_option maxHeartbeats 4000000 in
theorem t_x9_countPile_l4_r {l : Launch} {G : GG} {M : MC} (X : CX M G cX9_countPile 3 RX9 ⟨4, 0, 0, 126⟩) (hl0 : M.2.1 = l) (hr : (mM M).sig.returnType = (some .int)) (hnm : (mM M).name = yX9_countPile.name) {Q : State → Prop} {kc ks : Nat} {a0 : Nat} : ∀ (n : Nat) (s0 : Int32 × Int32) (g : AH) (t : (Int32)) (g1 : AH), loopX (x9_countPile_l4 a0) n s0 g = some (t, g1) → WW M G 3 Q kc ks g1 37 [(1, .int t)] [] → WW M G 3 Q kc ks g 4 [(0, .ref a0), (1, .int s0.1), (2, .int s0.2)] [] :=
  loop_cps (K := fun t g1 => WW M G 3 Q kc ks g1 37 [(1, .int t)] []) (fun _ s0 g => WW M G 3 Q kc ks g 4 [(0, .ref a0), (1, .int s0.1), (2, .int s0.2)] []) (fun n s0 g st g1 E hc hx => t_x9_countPile_l4 X hl0 hr hnm hc hx E)
set_option maxHeartbeats 4000000 in
set_option maxRecDepth 100000 in
theorem t_x9_countPile_b {l : Launch} {G : GG} {M : MC} (X : CX M G cX9_countPile 3 RX9 ⟨4, 0, 0, 126⟩) (hl0 : M.2.1 = l) (hr : (mM M).sig.returnType = (some .int)) (hnm : (mM M).name = yX9_countPile.name) {p : Nat} {g : AH} {r : Int32} {g1 : AH} (E : x9_countPile p g = some (r, g1)) : WW M G 3 (RQ M G (some (.int r)) g1 0 0) 0 0 g 0 [(0, .ref p)] [] := by
  unfold x9_countPile at E
  refine r_iconst X (v := 0) dX9_countPile_0 (by decide) ?_
  refine r_istore_n X 1 (L1 := [(1, .int 0), (0, .ref p)]) dX9_countPile_1 rfl (by decide) rfl ?_
  refine r_iconst X (v := 0) dX9_countPile_2 (by decide) ?_
  refine r_istore_n X 2 (L1 := [(2, .int 0), (1, .int 0), (0, .ref p)]) dX9_countPile_3 rfl (by decide) rfl ?_
  obtain ⟨t1, g2, e3, E⟩ := cb_some E
  refine r_pick (by rfl : lpick [(2, .int 0), (1, .int 0), (0, .ref p)] [2, 1, 0] = _) (t_x9_countPile_l4_r X hl0 hr hnm _ _ _ _ _ e3 ?_)
  refine r_iload_n X 1 dX9_countPile_37 rfl rfl ?_
  cases E
  exact r_iret X hr dX9_countPile_38 (by decide) (by decide)
theorem t_x9_countPile {l : Launch} {G : GG} {p : Nat} {g : AH} {r : Int32} {g1 : AH} (E : x9_countPile p g = some (r, g1)) : Ct l G yX9_countPile cX9_countPile 3 (some .int) ⟨4, 0, 0, 126⟩ [.ref p] g (some (.int r)) g1 :=
  ct_of (L0 := [(0, .ref p)]) y_X9_countPile rfl (Nat.le_of_ble_eq_true rfl) fun M hl0 X hr hnm => t_x9_countPile_b X hl0 hr hnm E
set_option maxHeartbeats 4000000 in
set_option maxRecDepth 100000 in
theorem t_x9_rankOnPile_j65_4 {l : Launch} {G : GG} {M : MC} (X : CX M G cX9_rankOnPile 5 RX9 ⟨4, 0, 0, 126⟩) (hl0 : M.2.1 = l) (hr : (mM M).sig.returnType = (some .int)) (hnm : (mM M).name = yX9_rankOnPile.name) {Q : State → Prop} {kc ks : Nat} {s9 : ((Int32 × Int32) ⊕ (Int32))} {g1 : AH} {a0 : Nat} {a1 : Int32} {a3 : Int32} {s0 : Int32} {s1 : Int32} (hc : ∀ s1, s9 = .inl s1 → WW M G 5 Q kc ks g1 4 [(0, .ref a0), (1, .int a1), (2, .int s1.1), (3, .int s1.2)] []) (hx : ∀ t, s9 = .inr t → WW M G 5 Q kc ks g1 73 [(2, .int t)] []) {g : AH} (E : x9_rankOnPile_j65_4 a0 a1 a3 s0 s1 g = some (s9, g1)) : WW M G 5 Q kc ks g 65 [(0, .ref a0), (1, .int a1), (3, .int a3)] [.int s0, .int s1] := by
  unfold x9_rankOnPile_j65_4 at E
  refine r_iadd X dX9_rankOnPile_65 ?_
  refine r_istore_n X 2 (L1 := [(2, .int (s1 + s0)), (0, .ref a0), (1, .int a1), (3, .int a3)]) dX9_rankOnPile_66 rfl (by decide) rfl ?_
  refine r_iinc X (v := (a3 + 1)) (L1 := [(3, .int (a3 + 1)), (2, .int (s1 + s0)), (0, .ref a0), (1, .int a1)]) dX9_rankOnPile_67 rfl rfl (by decide) rfl ?_
  refine r_goto X 4 dX9_rankOnPile_70 (by decide) ?_
  cases E
  exact r_pick (by rfl : lpick [(3, .int (a3 + 1)), (2, .int (s1 + s0)), (0, .ref a0), (1, .int a1)] [2, 3, 1, 0] = _) (hc _ rfl)
set_option maxHeartbeats 4000000 in
set_option maxRecDepth 100000 in
theorem t_x9_rankOnPile_j64_4 {l : Launch} {G : GG} {M : MC} (X : CX M G cX9_rankOnPile 5 RX9 ⟨4, 0, 0, 126⟩) (hl0 : M.2.1 = l) (hr : (mM M).sig.returnType = (some .int)) (hnm : (mM M).name = yX9_rankOnPile.name) {Q : State → Prop} {kc ks : Nat} {s9 : ((Int32 × Int32) ⊕ (Int32))} {g1 : AH} {a0 : Nat} {a1 : Int32} {a3 : Int32} {s0 : Int32} (hc : ∀ s1, s9 = .inl s1 → WW M G 5 Q kc ks g1 4 [(0, .ref a0), (1, .int a1), (2, .int s1.1), (3, .int s1.2)] []) (hx : ∀ t, s9 = .inr t → WW M G 5 Q kc ks g1 73 [(2, .int t)] []) {g : AH} (E : x9_rankOnPile_j64_4 a0 a1 a3 s0 g = some (s9, g1)) : WW M G 5 Q kc ks g 64 [(0, .ref a0), (1, .int a1), (3, .int a3)] [.int s0] := by
  unfold x9_rankOnPile_j64_4 at E
  refine r_iconst X (v := 0) dX9_rankOnPile_64 (by decide) ?_
  exact r_pick (by rfl : lpick [(0, .ref a0), (1, .int a1), (3, .int a3)] [0, 1, 2] = _) (t_x9_rankOnPile_j65_4 X hl0 hr hnm hc hx E)
set_option maxHeartbeats 4000000 in
set_option maxRecDepth 100000 in
theorem t_x9_rankOnPile_j60_4 {l : Launch} {G : GG} {M : MC} (X : CX M G cX9_rankOnPile 5 RX9 ⟨4, 0, 0, 126⟩) (hl0 : M.2.1 = l) (hr : (mM M).sig.returnType = (some .int)) (hnm : (mM M).name = yX9_rankOnPile.name) {Q : State → Prop} {kc ks : Nat} {s9 : ((Int32 × Int32) ⊕ (Int32))} {g1 : AH} {a0 : Nat} {a1 : Int32} {a3 : Int32} {s0 : Int32} (hc : ∀ s1, s9 = .inl s1 → WW M G 5 Q kc ks g1 4 [(0, .ref a0), (1, .int a1), (2, .int s1.1), (3, .int s1.2)] []) (hx : ∀ t, s9 = .inr t → WW M G 5 Q kc ks g1 73 [(2, .int t)] []) {g : AH} (E : x9_rankOnPile_j60_4 a0 a1 a3 s0 g = some (s9, g1)) : WW M G 5 Q kc ks g 60 [(0, .ref a0), (1, .int a1), (3, .int a3)] [.int s0] := by
  unfold x9_rankOnPile_j60_4 at E
  refine r_iconst X (v := 1) dX9_rankOnPile_60 (by decide) ?_
  refine r_goto X 65 dX9_rankOnPile_61 (by decide) ?_
  exact r_pick (by rfl : lpick [(0, .ref a0), (1, .int a1), (3, .int a3)] [0, 1, 2] = _) (t_x9_rankOnPile_j65_4 X hl0 hr hnm hc hx E)
set_option maxHeartbeats 4000000 in
set_option maxRecDepth 100000 in
theorem t_x9_rankOnPile_l4 {l : Launch} {G : GG} {M : MC} (X : CX M G cX9_rankOnPile 5 RX9 ⟨4, 0, 0, 126⟩) (hl0 : M.2.1 = l) (hr : (mM M).sig.returnType = (some .int)) (hnm : (mM M).name = yX9_rankOnPile.name) {Q : State → Prop} {kc ks : Nat} {s9 : ((Int32 × Int32) ⊕ (Int32))} {g1 : AH} {a0 : Nat} {a1 : Int32} {s0 : Int32 × Int32} (hc : ∀ s1, s9 = .inl s1 → WW M G 5 Q kc ks g1 4 [(0, .ref a0), (1, .int a1), (2, .int s1.1), (3, .int s1.2)] []) (hx : ∀ t, s9 = .inr t → WW M G 5 Q kc ks g1 73 [(2, .int t)] []) {g : AH} (E : x9_rankOnPile_l4 a0 a1 s0 g = some (s9, g1)) : WW M G 5 Q kc ks g 4 [(0, .ref a0), (1, .int a1), (2, .int s0.1), (3, .int s0.2)] [] := by
  unfold x9_rankOnPile_l4 at E
  refine r_iload_n X 3 dX9_rankOnPile_4 rfl rfl ?_
  refine r_aload_n X 0 dX9_rankOnPile_5 rfl rfl ?_
  obtain ⟨x1, e2, E⟩ := gb_some E
  refine r_getR X dX9_rankOnPile_6 f_X9_7 e2 ?_
  refine r_bipush X (v := 10) dX9_rankOnPile_9 (by decide) ?_
  obtain ⟨x3, e4, E⟩ := gb_some E
  refine r_iald X dX9_rankOnPile_11 e4 ?_
  refine r_icmp_ge X 73 dX9_rankOnPile_12 (by decide) (fun c5 => ?_) (fun c5 => ?_)
  · rw [if_pos c5] at E
    cases E
    exact r_pick (by rfl : lpick [(0, .ref a0), (1, .int a1), (2, .int s0.1), (3, .int s0.2)] [2] = _) (hx _ rfl)
  · rw [if_neg c5] at E
    refine r_aload_n X 0 dX9_rankOnPile_15 rfl rfl ?_
    obtain ⟨x6, e7, E⟩ := gb_some E
    refine r_getR X dX9_rankOnPile_16 f_X9_7 e7 ?_
    refine r_bipush X (v := 25) dX9_rankOnPile_19 (by decide) ?_
    refine r_iload_n X 3 dX9_rankOnPile_21 rfl rfl ?_
    refine r_iadd X dX9_rankOnPile_22 ?_
    obtain ⟨x8, e9, E⟩ := gb_some E
    refine r_iald X dX9_rankOnPile_23 e9 ?_
    refine r_aload_n X 0 dX9_rankOnPile_24 rfl rfl ?_
    obtain ⟨x10, e11, E⟩ := gb_some E
    refine r_getR X dX9_rankOnPile_25 f_X9_7 e11 ?_
    refine r_bipush X (v := 25) dX9_rankOnPile_28 (by decide) ?_
    refine r_iload_n X 1 dX9_rankOnPile_30 rfl rfl ?_
    refine r_iadd X dX9_rankOnPile_31 ?_
    obtain ⟨x12, e13, E⟩ := gb_some E
    refine r_iald X dX9_rankOnPile_32 e13 ?_
    refine r_isub X dX9_rankOnPile_33 ?_
    refine r_istore X (L1 := [(4, .int (x8 - x12)), (0, .ref a0), (1, .int a1), (2, .int s0.1), (3, .int s0.2)]) dX9_rankOnPile_34 (by decide) rfl ?_
    refine r_iload_n X 2 dX9_rankOnPile_36 rfl rfl ?_
    refine r_aload_n X 0 dX9_rankOnPile_37 rfl rfl ?_
    refine r_iload_n X 3 dX9_rankOnPile_38 rfl rfl ?_
    obtain ⟨u17, e18, E⟩ := gb_some E
    obtain ⟨r14, g15, e16, E⟩ := cb_some E
    refine r_callV0 X hl0 (ci := 9) dX9_rankOnPile_39 y_X9_isOnPile m_X9_336 rfl rfl e18 (t_x9_isOnPile (l := l) (G := G) e16) rfl rfl (Nat.le_of_ble_eq_true rfl) (by decide) ?_
    refine r_if_eq X 64 dX9_rankOnPile_42 (by decide) (fun c19 => ?_) (fun c19 => ?_)
    · rw [if_pos c19] at E
      exact r_pick (by rfl : lpick [(4, .int (x8 - x12)), (0, .ref a0), (1, .int a1), (2, .int s0.1), (3, .int s0.2)] [1, 2, 4] = _) (t_x9_rankOnPile_j64_4 X hl0 hr hnm hc hx E)
    · rw [if_neg c19] at E
      refine r_iload X dX9_rankOnPile_45 rfl ?_
      refine r_if_gt X 60 dX9_rankOnPile_47 (by decide) (fun c20 => ?_) (fun c20 => ?_)
      · rw [if_pos c20] at E
        exact r_pick (by rfl : lpick [(4, .int (x8 - x12)), (0, .ref a0), (1, .int a1), (2, .int s0.1), (3, .int s0.2)] [1, 2, 4] = _) (t_x9_rankOnPile_j60_4 X hl0 hr hnm hc hx E)
      · rw [if_neg c20] at E
        refine r_iload X dX9_rankOnPile_50 rfl ?_
        refine r_if_ne X 64 dX9_rankOnPile_52 (by decide) (fun c21 => ?_) (fun c21 => ?_)
        · rw [if_neg c21] at E
          exact r_pick (by rfl : lpick [(4, .int (x8 - x12)), (0, .ref a0), (1, .int a1), (2, .int s0.1), (3, .int s0.2)] [1, 2, 4] = _) (t_x9_rankOnPile_j64_4 X hl0 hr hnm hc hx E)
        · rw [if_pos c21] at E
          refine r_iload_n X 3 dX9_rankOnPile_55 rfl rfl ?_
          refine r_iload_n X 1 dX9_rankOnPile_56 rfl rfl ?_
          refine r_icmp_ge X 64 dX9_rankOnPile_57 (by decide) (fun c22 => ?_) (fun c22 => ?_)
          · rw [if_pos c22] at E
            exact r_pick (by rfl : lpick [(4, .int (x8 - x12)), (0, .ref a0), (1, .int a1), (2, .int s0.1), (3, .int s0.2)] [1, 2, 4] = _) (t_x9_rankOnPile_j64_4 X hl0 hr hnm hc hx E)
          · rw [if_neg c22] at E
            exact r_pick (by rfl : lpick [(4, .int (x8 - x12)), (0, .ref a0), (1, .int a1), (2, .int s0.1), (3, .int s0.2)] [1, 2, 4] = _) (t_x9_rankOnPile_j60_4 X hl0 hr hnm hc hx E)
set_option maxHeartbeats 4000000 in
theorem t_x9_rankOnPile_l4_r {l : Launch} {G : GG} {M : MC} (X : CX M G cX9_rankOnPile 5 RX9 ⟨4, 0, 0, 126⟩) (hl0 : M.2.1 = l) (hr : (mM M).sig.returnType = (some .int)) (hnm : (mM M).name = yX9_rankOnPile.name) {Q : State → Prop} {kc ks : Nat} {a0 : Nat} {a1 : Int32} : ∀ (n : Nat) (s0 : Int32 × Int32) (g : AH) (t : (Int32)) (g1 : AH), loopX (x9_rankOnPile_l4 a0 a1) n s0 g = some (t, g1) → WW M G 5 Q kc ks g1 73 [(2, .int t)] [] → WW M G 5 Q kc ks g 4 [(0, .ref a0), (1, .int a1), (2, .int s0.1), (3, .int s0.2)] [] :=
  loop_cps (K := fun t g1 => WW M G 5 Q kc ks g1 73 [(2, .int t)] []) (fun _ s0 g => WW M G 5 Q kc ks g 4 [(0, .ref a0), (1, .int a1), (2, .int s0.1), (3, .int s0.2)] []) (fun n s0 g st g1 E hc hx => t_x9_rankOnPile_l4 X hl0 hr hnm hc hx E)
set_option maxHeartbeats 4000000 in
set_option maxRecDepth 100000 in
theorem t_x9_rankOnPile_b {l : Launch} {G : GG} {M : MC} (X : CX M G cX9_rankOnPile 5 RX9 ⟨4, 0, 0, 126⟩) (hl0 : M.2.1 = l) (hr : (mM M).sig.returnType = (some .int)) (hnm : (mM M).name = yX9_rankOnPile.name) {p : Nat} {b0 : Int32} {g : AH} {r : Int32} {g1 : AH} (E : x9_rankOnPile p b0 g = some (r, g1)) : WW M G 5 (RQ M G (some (.int r)) g1 0 0) 0 0 g 0 [(0, .ref p), (1, .int b0)] [] := by
  unfold x9_rankOnPile at E
  refine r_iconst X (v := 0) dX9_rankOnPile_0 (by decide) ?_
  refine r_istore_n X 2 (L1 := [(2, .int 0), (0, .ref p), (1, .int b0)]) dX9_rankOnPile_1 rfl (by decide) rfl ?_
  refine r_iconst X (v := 0) dX9_rankOnPile_2 (by decide) ?_
  refine r_istore_n X 3 (L1 := [(3, .int 0), (2, .int 0), (0, .ref p), (1, .int b0)]) dX9_rankOnPile_3 rfl (by decide) rfl ?_
  obtain ⟨t1, g2, e3, E⟩ := cb_some E
  refine r_pick (by rfl : lpick [(3, .int 0), (2, .int 0), (0, .ref p), (1, .int b0)] [2, 3, 1, 0] = _) (t_x9_rankOnPile_l4_r X hl0 hr hnm _ _ _ _ _ e3 ?_)
  refine r_iload_n X 2 dX9_rankOnPile_73 rfl rfl ?_
  cases E
  exact r_iret X hr dX9_rankOnPile_74 (by decide) (by decide)
theorem t_x9_rankOnPile {l : Launch} {G : GG} {p : Nat} {b0 : Int32} {g : AH} {r : Int32} {g1 : AH} (E : x9_rankOnPile p b0 g = some (r, g1)) : Ct l G yX9_rankOnPile cX9_rankOnPile 5 (some .int) ⟨4, 0, 0, 126⟩ [.ref p, .int b0] g (some (.int r)) g1 :=
  ct_of (L0 := [(0, .ref p), (1, .int b0)]) y_X9_rankOnPile rfl (Nat.le_of_ble_eq_true rfl) fun M hl0 X hr hnm => t_x9_rankOnPile_b X hl0 hr hnm E
set_option maxHeartbeats 4000000 in
set_option maxRecDepth 100000 in
theorem t_x9_blanketOnPile_j37_7 {l : Launch} {G : GG} {M : MC} (X : CX M G cX9_blanketOnPile 3 RX9 ⟨5, 0, 0, 150⟩) (hl0 : M.2.1 = l) (hr : (mM M).sig.returnType = (some .int)) (hnm : (mM M).name = yX9_blanketOnPile.name) {Q : State → Prop} {kc ks : Nat} {s9 : ((Int32) ⊕ ((Unit) ⊕ Int32))} {g1 : AH} {a0 : Nat} {a1 : Int32} {a2 : Int32} (hc : ∀ s1, s9 = .inl s1 → WW M G 3 Q kc ks g1 7 [(0, .ref a0), (1, .int a1), (2, .int s1)] []) (hx : ∀ t, s9 = .inr t → Sum.elim (fun t1 => WW M G 3 Q kc ks g1 43 [(0, .ref a0)] []) (fun t2 => ∃ mc ms : Nat, kc ≤ mc ∧ ks ≤ ms ∧ Q = RQ M G (some (.int t2)) g1 mc ms) t) {g : AH} (E : x9_blanketOnPile_j37_7 a0 a1 a2 g = some (s9, g1)) : WW M G 3 Q kc ks g 37 [(0, .ref a0), (1, .int a1), (2, .int a2)] [] := by
  unfold x9_blanketOnPile_j37_7 at E
  refine r_iinc X (v := (a2 + 1)) (L1 := [(2, .int (a2 + 1)), (0, .ref a0), (1, .int a1)]) dX9_blanketOnPile_37 rfl rfl (by decide) rfl ?_
  refine r_goto X 7 dX9_blanketOnPile_40 (by decide) ?_
  cases E
  exact r_pick (by rfl : lpick [(2, .int (a2 + 1)), (0, .ref a0), (1, .int a1)] [1, 2, 0] = _) (hc _ rfl)
set_option maxHeartbeats 4000000 in
set_option maxRecDepth 100000 in
theorem t_x9_blanketOnPile_l7 {l : Launch} {G : GG} {M : MC} (X : CX M G cX9_blanketOnPile 3 RX9 ⟨5, 0, 0, 150⟩) (hl0 : M.2.1 = l) (hr : (mM M).sig.returnType = (some .int)) (hnm : (mM M).name = yX9_blanketOnPile.name) {Q : State → Prop} {kc ks : Nat} {s9 : ((Int32) ⊕ ((Unit) ⊕ Int32))} {g1 : AH} {a0 : Nat} {a1 : Int32} {s0 : Int32} (hc : ∀ s1, s9 = .inl s1 → WW M G 3 Q kc ks g1 7 [(0, .ref a0), (1, .int a1), (2, .int s1)] []) (hx : ∀ t, s9 = .inr t → Sum.elim (fun t1 => WW M G 3 Q kc ks g1 43 [(0, .ref a0)] []) (fun t2 => ∃ mc ms : Nat, kc ≤ mc ∧ ks ≤ ms ∧ Q = RQ M G (some (.int t2)) g1 mc ms) t) {g : AH} (E : x9_blanketOnPile_l7 a0 a1 s0 g = some (s9, g1)) : WW M G 3 Q kc ks g 7 [(0, .ref a0), (1, .int a1), (2, .int s0)] [] := by
  unfold x9_blanketOnPile_l7 at E
  refine r_iload_n X 2 dX9_blanketOnPile_7 rfl rfl ?_
  refine r_aload_n X 0 dX9_blanketOnPile_8 rfl rfl ?_
  obtain ⟨x1, e2, E⟩ := gb_some E
  refine r_getR X dX9_blanketOnPile_9 f_X9_7 e2 ?_
  refine r_bipush X (v := 10) dX9_blanketOnPile_12 (by decide) ?_
  obtain ⟨x3, e4, E⟩ := gb_some E
  refine r_iald X dX9_blanketOnPile_14 e4 ?_
  refine r_icmp_ge X 43 dX9_blanketOnPile_15 (by decide) (fun c5 => ?_) (fun c5 => ?_)
  · rw [if_pos c5] at E
    cases E
    exact r_pick (by rfl : lpick [(0, .ref a0), (1, .int a1), (2, .int s0)] [0] = _) (hx _ rfl)
  · rw [if_neg c5] at E
    refine r_aload_n X 0 dX9_blanketOnPile_18 rfl rfl ?_
    refine r_iload_n X 2 dX9_blanketOnPile_19 rfl rfl ?_
    obtain ⟨u9, e10, E⟩ := gb_some E
    obtain ⟨r6, g7, e8, E⟩ := cb_some E
    refine r_callV0 X hl0 (ci := 9) dX9_blanketOnPile_20 y_X9_isOnPile m_X9_336 rfl rfl e10 (t_x9_isOnPile (l := l) (G := G) e8) rfl rfl (Nat.le_of_ble_eq_true rfl) (by decide) ?_
    refine r_if_eq X 37 dX9_blanketOnPile_23 (by decide) (fun c11 => ?_) (fun c11 => ?_)
    · rw [if_pos c11] at E
      exact r_pick (by rfl : lpick [(0, .ref a0), (1, .int a1), (2, .int s0)] [0, 1, 2] = _) (t_x9_blanketOnPile_j37_7 X hl0 hr hnm hc hx E)
    · rw [if_neg c11] at E
      refine r_aload_n X 0 dX9_blanketOnPile_26 rfl rfl ?_
      refine r_iload_n X 2 dX9_blanketOnPile_27 rfl rfl ?_
      obtain ⟨u15, e16, E⟩ := gb_some E
      obtain ⟨r12, g13, e14, E⟩ := cb_some E
      refine r_callV0 X hl0 (ci := 9) dX9_blanketOnPile_28 y_X9_rankOnPile m_X9_339 rfl rfl e16 (t_x9_rankOnPile (l := l) (G := G) e14) rfl rfl (Nat.le_of_ble_eq_true rfl) (by decide) ?_
      refine r_iload_n X 1 dX9_blanketOnPile_31 rfl rfl ?_
      refine r_icmp_ne X 37 dX9_blanketOnPile_32 (by decide) (fun c17 => ?_) (fun c17 => ?_)
      · rw [if_neg c17] at E
        exact r_pick (by rfl : lpick [(0, .ref a0), (1, .int a1), (2, .int s0)] [0, 1, 2] = _) (t_x9_blanketOnPile_j37_7 X hl0 hr hnm hc hx E)
      · rw [if_pos c17] at E
        refine r_iload_n X 2 dX9_blanketOnPile_35 rfl rfl ?_
        cases E
        obtain ⟨mc9, ms9, h91, h92, rfl⟩ := hx _ rfl
        exact r_iret X hr dX9_blanketOnPile_36 h91 h92
set_option maxHeartbeats 4000000 in
theorem t_x9_blanketOnPile_l7_r {l : Launch} {G : GG} {M : MC} (X : CX M G cX9_blanketOnPile 3 RX9 ⟨5, 0, 0, 150⟩) (hl0 : M.2.1 = l) (hr : (mM M).sig.returnType = (some .int)) (hnm : (mM M).name = yX9_blanketOnPile.name) {Q : State → Prop} {kc ks : Nat} {a0 : Nat} {a1 : Int32} : ∀ (n : Nat) (s0 : Int32) (g : AH) (t : ((Unit) ⊕ Int32)) (g1 : AH), loopX (x9_blanketOnPile_l7 a0 a1) n s0 g = some (t, g1) → Sum.elim (fun t1 => WW M G 3 Q kc ks g1 43 [(0, .ref a0)] []) (fun t2 => ∃ mc ms : Nat, kc ≤ mc ∧ ks ≤ ms ∧ Q = RQ M G (some (.int t2)) g1 mc ms) t → WW M G 3 Q kc ks g 7 [(0, .ref a0), (1, .int a1), (2, .int s0)] [] :=
  loop_cps (K := fun t g1 => Sum.elim (fun t1 => WW M G 3 Q kc ks g1 43 [(0, .ref a0)] []) (fun t2 => ∃ mc ms : Nat, kc ≤ mc ∧ ks ≤ ms ∧ Q = RQ M G (some (.int t2)) g1 mc ms) t) (fun _ s0 g => WW M G 3 Q kc ks g 7 [(0, .ref a0), (1, .int a1), (2, .int s0)] []) (fun n s0 g st g1 E hc hx => t_x9_blanketOnPile_l7 X hl0 hr hnm hc hx E)
set_option maxHeartbeats 4000000 in
set_option maxRecDepth 100000 in
theorem t_x9_blanketOnPile_b {l : Launch} {G : GG} {M : MC} (X : CX M G cX9_blanketOnPile 3 RX9 ⟨5, 0, 0, 150⟩) (hl0 : M.2.1 = l) (hr : (mM M).sig.returnType = (some .int)) (hnm : (mM M).name = yX9_blanketOnPile.name) {p : Nat} {b0 : Int32} {g : AH} {r : Int32} {g1 : AH} (E : x9_blanketOnPile p b0 g = some (r, g1)) : WW M G 3 (RQ M G (some (.int r)) g1 0 0) 0 0 g 0 [(0, .ref p), (1, .int b0)] [] := by
  unfold x9_blanketOnPile at E
  refine r_aload_n X 0 dX9_blanketOnPile_0 rfl rfl ?_
  refine r_iconst X (v := 0) dX9_blanketOnPile_1 (by decide) ?_
  obtain ⟨g1, e2, E⟩ := gb_some E
  refine r_put X dX9_blanketOnPile_2 f_X9_57 rfl rfl e2 ?_
  refine r_iconst X (v := 0) dX9_blanketOnPile_5 (by decide) ?_
  refine r_istore_n X 2 (L1 := [(2, .int 0), (0, .ref p), (1, .int b0)]) dX9_blanketOnPile_6 rfl (by decide) rfl ?_
  obtain ⟨t3, g4, e5, E⟩ := cb_some E
  rcases t3 with t6 | t7
  · rw [Sum.elim_inl] at E
    refine r_pick (by rfl : lpick [(2, .int 0), (0, .ref p), (1, .int b0)] [1, 2, 0] = _) (t_x9_blanketOnPile_l7_r X hl0 hr hnm _ _ _ _ _ e5 ?_)
    refine r_aload_n X 0 dX9_blanketOnPile_43 rfl rfl ?_
    refine r_iconst X (v := 1) dX9_blanketOnPile_44 (by decide) ?_
    obtain ⟨u11, e12, E⟩ := gb_some E
    obtain ⟨r8, g9, e10, E⟩ := cb_some E
    refine r_callV0 X hl0 (ci := 9) dX9_blanketOnPile_45 y_X9_fail m_X9_141 rfl rfl e12 (t_x9_fail (l := l) (G := G) e10) rfl rfl (Nat.le_of_ble_eq_true rfl) (by decide) ?_
    cases E
    exact r_iret X hr dX9_blanketOnPile_48 (by decide) (by decide)
  · rw [Sum.elim_inr] at E
    cases E
    exact r_pick (by rfl : lpick [(2, .int 0), (0, .ref p), (1, .int b0)] [1, 2, 0] = _) (t_x9_blanketOnPile_l7_r X hl0 hr hnm _ _ _ _ _ e5 ⟨_, _, by decide, by decide, rfl⟩)
theorem t_x9_blanketOnPile {l : Launch} {G : GG} {p : Nat} {b0 : Int32} {g : AH} {r : Int32} {g1 : AH} (E : x9_blanketOnPile p b0 g = some (r, g1)) : Ct l G yX9_blanketOnPile cX9_blanketOnPile 3 (some .int) ⟨5, 0, 0, 150⟩ [.ref p, .int b0] g (some (.int r)) g1 :=
  ct_of (L0 := [(0, .ref p), (1, .int b0)]) y_X9_blanketOnPile rfl (Nat.le_of_ble_eq_true rfl) fun M hl0 X hr hnm => t_x9_blanketOnPile_b X hl0 hr hnm E
set_option maxHeartbeats 4000000 in
set_option maxRecDepth 100000 in
theorem t_x9_pileSize_b {l : Launch} {G : GG} {M : MC} (X : CX M G cX9_pileSize 1 RX9 ⟨5, 0, 0, 148⟩) (hl0 : M.2.1 = l) (hr : (mM M).sig.returnType = (some .int)) (hnm : (mM M).name = yX9_pileSize.name) {p : Nat} {g : AH} {r : Int32} {g1 : AH} (E : x9_pileSize p g = some (r, g1)) : WW M G 1 (RQ M G (some (.int r)) g1 0 0) 0 0 g 0 [(0, .ref p)] [] := by
  unfold x9_pileSize at E
  refine r_aload_n X 0 dX9_pileSize_0 rfl rfl ?_
  refine r_iconst X (v := 0) dX9_pileSize_1 (by decide) ?_
  obtain ⟨g1, e2, E⟩ := gb_some E
  refine r_put X dX9_pileSize_2 f_X9_57 rfl rfl e2 ?_
  refine r_aload_n X 0 dX9_pileSize_5 rfl rfl ?_
  obtain ⟨u6, e7, E⟩ := gb_some E
  obtain ⟨r3, g4, e5, E⟩ := cb_some E
  refine r_callV0 X hl0 (ci := 9) dX9_pileSize_6 y_X9_countPile m_X9_342 rfl rfl e7 (t_x9_countPile (l := l) (G := G) e5) rfl rfl (Nat.le_of_ble_eq_true rfl) (by decide) ?_
  cases E
  exact r_iret X hr dX9_pileSize_9 (by decide) (by decide)
theorem t_x9_pileSize {l : Launch} {G : GG} {p : Nat} {g : AH} {r : Int32} {g1 : AH} (E : x9_pileSize p g = some (r, g1)) : Ct l G yX9_pileSize cX9_pileSize 1 (some .int) ⟨5, 0, 0, 148⟩ [.ref p] g (some (.int r)) g1 :=
  ct_of (L0 := [(0, .ref p)]) y_X9_pileSize rfl (Nat.le_of_ble_eq_true rfl) fun M hl0 X hr hnm => t_x9_pileSize_b X hl0 hr hnm E
set_option maxHeartbeats 4000000 in
set_option maxRecDepth 100000 in
theorem t_x9_fittingBlanket_j106_23 {l : Launch} {G : GG} {M : MC} (X : CX M G cX9_fittingBlanket 6 RX9 ⟨5, 0, 0, 149⟩) (hl0 : M.2.1 = l) (hr : (mM M).sig.returnType = (some .int)) (hnm : (mM M).name = yX9_fittingBlanket.name) {Q : State → Prop} {kc ks : Nat} {s9 : ((Int32 × Int32) ⊕ (Int32))} {g1 : AH} {a0 : Nat} {a1 : Int32} {a3 : Int32} {s0 : Int32} (hc : ∀ s1, s9 = .inl s1 → WW M G 6 Q kc ks g1 23 [(0, .ref a0), (1, .int a1), (2, .int s1.1), (3, .int s1.2)] []) (hx : ∀ t, s9 = .inr t → WW M G 6 Q kc ks g1 113 [(2, .int t)] []) {g : AH} (E : x9_fittingBlanket_j106_23 a0 a1 a3 s0 g = some (s9, g1)) : WW M G 6 Q kc ks g 106 [(0, .ref a0), (1, .int a1), (3, .int a3)] [.int s0] := by
  unfold x9_fittingBlanket_j106_23 at E
  refine r_istore_n X 2 (L1 := [(2, .int s0), (0, .ref a0), (1, .int a1), (3, .int a3)]) dX9_fittingBlanket_106 rfl (by decide) rfl ?_
  refine r_iinc X (v := (a3 + 1)) (L1 := [(3, .int (a3 + 1)), (2, .int s0), (0, .ref a0), (1, .int a1)]) dX9_fittingBlanket_107 rfl rfl (by decide) rfl ?_
  refine r_goto X 23 dX9_fittingBlanket_110 (by decide) ?_
  cases E
  exact r_pick (by rfl : lpick [(3, .int (a3 + 1)), (2, .int s0), (0, .ref a0), (1, .int a1)] [2, 3, 1, 0] = _) (hc _ rfl)
set_option maxHeartbeats 4000000 in
set_option maxRecDepth 100000 in
theorem t_x9_fittingBlanket_j105_23 {l : Launch} {G : GG} {M : MC} (X : CX M G cX9_fittingBlanket 6 RX9 ⟨5, 0, 0, 149⟩) (hl0 : M.2.1 = l) (hr : (mM M).sig.returnType = (some .int)) (hnm : (mM M).name = yX9_fittingBlanket.name) {Q : State → Prop} {kc ks : Nat} {s9 : ((Int32 × Int32) ⊕ (Int32))} {g1 : AH} {a0 : Nat} {a1 : Int32} {a2 : Int32} {a3 : Int32} (hc : ∀ s1, s9 = .inl s1 → WW M G 6 Q kc ks g1 23 [(0, .ref a0), (1, .int a1), (2, .int s1.1), (3, .int s1.2)] []) (hx : ∀ t, s9 = .inr t → WW M G 6 Q kc ks g1 113 [(2, .int t)] []) {g : AH} (E : x9_fittingBlanket_j105_23 a0 a1 a2 a3 g = some (s9, g1)) : WW M G 6 Q kc ks g 105 [(0, .ref a0), (1, .int a1), (2, .int a2), (3, .int a3)] [] := by
  unfold x9_fittingBlanket_j105_23 at E
  refine r_iload_n X 2 dX9_fittingBlanket_105 rfl rfl ?_
  exact r_pick (by rfl : lpick [(0, .ref a0), (1, .int a1), (2, .int a2), (3, .int a3)] [0, 1, 3] = _) (t_x9_fittingBlanket_j106_23 X hl0 hr hnm hc hx E)
set_option maxHeartbeats 4000000 in
set_option maxRecDepth 100000 in
theorem t_x9_fittingBlanket_j101_23 {l : Launch} {G : GG} {M : MC} (X : CX M G cX9_fittingBlanket 6 RX9 ⟨5, 0, 0, 149⟩) (hl0 : M.2.1 = l) (hr : (mM M).sig.returnType = (some .int)) (hnm : (mM M).name = yX9_fittingBlanket.name) {Q : State → Prop} {kc ks : Nat} {s9 : ((Int32 × Int32) ⊕ (Int32))} {g1 : AH} {a0 : Nat} {a1 : Int32} {a3 : Int32} (hc : ∀ s1, s9 = .inl s1 → WW M G 6 Q kc ks g1 23 [(0, .ref a0), (1, .int a1), (2, .int s1.1), (3, .int s1.2)] []) (hx : ∀ t, s9 = .inr t → WW M G 6 Q kc ks g1 113 [(2, .int t)] []) {g : AH} (E : x9_fittingBlanket_j101_23 a0 a1 a3 g = some (s9, g1)) : WW M G 6 Q kc ks g 101 [(0, .ref a0), (1, .int a1), (3, .int a3)] [] := by
  unfold x9_fittingBlanket_j101_23 at E
  refine r_iload_n X 3 dX9_fittingBlanket_101 rfl rfl ?_
  refine r_goto X 106 dX9_fittingBlanket_102 (by decide) ?_
  exact r_pick (by rfl : lpick [(0, .ref a0), (1, .int a1), (3, .int a3)] [0, 1, 2] = _) (t_x9_fittingBlanket_j106_23 X hl0 hr hnm hc hx E)
set_option maxHeartbeats 4000000 in
set_option maxRecDepth 100000 in
theorem t_x9_fittingBlanket_j75_23 {l : Launch} {G : GG} {M : MC} (X : CX M G cX9_fittingBlanket 6 RX9 ⟨5, 0, 0, 149⟩) (hl0 : M.2.1 = l) (hr : (mM M).sig.returnType = (some .int)) (hnm : (mM M).name = yX9_fittingBlanket.name) {Q : State → Prop} {kc ks : Nat} {s9 : ((Int32 × Int32) ⊕ (Int32))} {g1 : AH} {a0 : Nat} {a1 : Int32} {a2 : Int32} {a3 : Int32} {a4 : Int32} {s0 : Int32} (hc : ∀ s1, s9 = .inl s1 → WW M G 6 Q kc ks g1 23 [(0, .ref a0), (1, .int a1), (2, .int s1.1), (3, .int s1.2)] []) (hx : ∀ t, s9 = .inr t → WW M G 6 Q kc ks g1 113 [(2, .int t)] []) {g : AH} (E : x9_fittingBlanket_j75_23 a0 a1 a2 a3 a4 s0 g = some (s9, g1)) : WW M G 6 Q kc ks g 75 [(0, .ref a0), (1, .int a1), (2, .int a2), (3, .int a3), (4, .int a4)] [.int s0] := by
  unfold x9_fittingBlanket_j75_23 at E
  refine r_istore X (L1 := [(5, .int s0), (0, .ref a0), (1, .int a1), (2, .int a2), (3, .int a3), (4, .int a4)]) dX9_fittingBlanket_75 (by decide) rfl ?_
  refine r_iload X dX9_fittingBlanket_77 rfl ?_
  refine r_if_eq X 105 dX9_fittingBlanket_79 (by decide) (fun c1 => ?_) (fun c1 => ?_)
  · rw [if_pos c1] at E
    exact r_pick (by rfl : lpick [(5, .int s0), (0, .ref a0), (1, .int a1), (2, .int a2), (3, .int a3), (4, .int a4)] [1, 2, 3, 4] = _) (t_x9_fittingBlanket_j105_23 X hl0 hr hnm hc hx E)
  · rw [if_neg c1] at E
    refine r_iload_n X 2 dX9_fittingBlanket_82 rfl rfl ?_
    refine r_iconst X (v := (-1)) dX9_fittingBlanket_83 (by decide) ?_
    refine r_icmp_eq X 101 dX9_fittingBlanket_84 (by decide) (fun c2 => ?_) (fun c2 => ?_)
    · rw [if_pos c2] at E
      exact r_pick (by rfl : lpick [(5, .int s0), (0, .ref a0), (1, .int a1), (2, .int a2), (3, .int a3), (4, .int a4)] [1, 2, 4] = _) (t_x9_fittingBlanket_j101_23 X hl0 hr hnm hc hx E)
    · rw [if_neg c2] at E
      refine r_iload X dX9_fittingBlanket_87 rfl ?_
      refine r_aload_n X 0 dX9_fittingBlanket_89 rfl rfl ?_
      obtain ⟨x3, e4, E⟩ := gb_some E
      refine r_getR X dX9_fittingBlanket_90 f_X9_7 e4 ?_
      refine r_bipush X (v := 25) dX9_fittingBlanket_93 (by decide) ?_
      refine r_iload_n X 2 dX9_fittingBlanket_95 rfl rfl ?_
      refine r_iadd X dX9_fittingBlanket_96 ?_
      obtain ⟨x5, e6, E⟩ := gb_some E
      refine r_iald X dX9_fittingBlanket_97 e6 ?_
      refine r_icmp_ge X 105 dX9_fittingBlanket_98 (by decide) (fun c7 => ?_) (fun c7 => ?_)
      · rw [if_pos c7] at E
        exact r_pick (by rfl : lpick [(5, .int s0), (0, .ref a0), (1, .int a1), (2, .int a2), (3, .int a3), (4, .int a4)] [1, 2, 3, 4] = _) (t_x9_fittingBlanket_j105_23 X hl0 hr hnm hc hx E)
      · rw [if_neg c7] at E
        exact r_pick (by rfl : lpick [(5, .int s0), (0, .ref a0), (1, .int a1), (2, .int a2), (3, .int a3), (4, .int a4)] [1, 2, 4] = _) (t_x9_fittingBlanket_j101_23 X hl0 hr hnm hc hx E)
set_option maxHeartbeats 4000000 in
set_option maxRecDepth 100000 in
theorem t_x9_fittingBlanket_j74_23 {l : Launch} {G : GG} {M : MC} (X : CX M G cX9_fittingBlanket 6 RX9 ⟨5, 0, 0, 149⟩) (hl0 : M.2.1 = l) (hr : (mM M).sig.returnType = (some .int)) (hnm : (mM M).name = yX9_fittingBlanket.name) {Q : State → Prop} {kc ks : Nat} {s9 : ((Int32 × Int32) ⊕ (Int32))} {g1 : AH} {a0 : Nat} {a1 : Int32} {a2 : Int32} {a3 : Int32} {a4 : Int32} (hc : ∀ s1, s9 = .inl s1 → WW M G 6 Q kc ks g1 23 [(0, .ref a0), (1, .int a1), (2, .int s1.1), (3, .int s1.2)] []) (hx : ∀ t, s9 = .inr t → WW M G 6 Q kc ks g1 113 [(2, .int t)] []) {g : AH} (E : x9_fittingBlanket_j74_23 a0 a1 a2 a3 a4 g = some (s9, g1)) : WW M G 6 Q kc ks g 74 [(0, .ref a0), (1, .int a1), (2, .int a2), (3, .int a3), (4, .int a4)] [] := by
  unfold x9_fittingBlanket_j74_23 at E
  refine r_iconst X (v := 0) dX9_fittingBlanket_74 (by decide) ?_
  exact r_pick (by rfl : lpick [(0, .ref a0), (1, .int a1), (2, .int a2), (3, .int a3), (4, .int a4)] [0, 1, 2, 3, 4] = _) (t_x9_fittingBlanket_j75_23 X hl0 hr hnm hc hx E)
set_option maxHeartbeats 4000000 in
set_option maxRecDepth 100000 in
theorem t_x9_fittingBlanket_l23 {l : Launch} {G : GG} {M : MC} (X : CX M G cX9_fittingBlanket 6 RX9 ⟨5, 0, 0, 149⟩) (hl0 : M.2.1 = l) (hr : (mM M).sig.returnType = (some .int)) (hnm : (mM M).name = yX9_fittingBlanket.name) {Q : State → Prop} {kc ks : Nat} {s9 : ((Int32 × Int32) ⊕ (Int32))} {g1 : AH} {a0 : Nat} {a1 : Int32} {s0 : Int32 × Int32} (hc : ∀ s1, s9 = .inl s1 → WW M G 6 Q kc ks g1 23 [(0, .ref a0), (1, .int a1), (2, .int s1.1), (3, .int s1.2)] []) (hx : ∀ t, s9 = .inr t → WW M G 6 Q kc ks g1 113 [(2, .int t)] []) {g : AH} (E : x9_fittingBlanket_l23 a0 a1 s0 g = some (s9, g1)) : WW M G 6 Q kc ks g 23 [(0, .ref a0), (1, .int a1), (2, .int s0.1), (3, .int s0.2)] [] := by
  unfold x9_fittingBlanket_l23 at E
  refine r_iload_n X 3 dX9_fittingBlanket_23 rfl rfl ?_
  refine r_aload_n X 0 dX9_fittingBlanket_24 rfl rfl ?_
  obtain ⟨x1, e2, E⟩ := gb_some E
  refine r_getR X dX9_fittingBlanket_25 f_X9_7 e2 ?_
  refine r_bipush X (v := 10) dX9_fittingBlanket_28 (by decide) ?_
  obtain ⟨x3, e4, E⟩ := gb_some E
  refine r_iald X dX9_fittingBlanket_30 e4 ?_
  refine r_icmp_ge X 113 dX9_fittingBlanket_31 (by decide) (fun c5 => ?_) (fun c5 => ?_)
  · rw [if_pos c5] at E
    cases E
    exact r_pick (by rfl : lpick [(0, .ref a0), (1, .int a1), (2, .int s0.1), (3, .int s0.2)] [2] = _) (hx _ rfl)
  · rw [if_neg c5] at E
    refine r_aload_n X 0 dX9_fittingBlanket_34 rfl rfl ?_
    obtain ⟨x6, e7, E⟩ := gb_some E
    refine r_getR X dX9_fittingBlanket_35 f_X9_7 e7 ?_
    refine r_bipush X (v := 25) dX9_fittingBlanket_38 (by decide) ?_
    refine r_iload_n X 3 dX9_fittingBlanket_40 rfl rfl ?_
    refine r_iadd X dX9_fittingBlanket_41 ?_
    obtain ⟨x8, e9, E⟩ := gb_some E
    refine r_iald X dX9_fittingBlanket_42 e9 ?_
    refine r_istore X (L1 := [(4, .int x8), (0, .ref a0), (1, .int a1), (2, .int s0.1), (3, .int s0.2)]) dX9_fittingBlanket_43 (by decide) rfl ?_
    refine r_aload_n X 0 dX9_fittingBlanket_45 rfl rfl ?_
    refine r_iload_n X 3 dX9_fittingBlanket_46 rfl rfl ?_
    obtain ⟨u13, e14, E⟩ := gb_some E
    obtain ⟨r10, g11, e12, E⟩ := cb_some E
    refine r_callV0 X hl0 (ci := 9) dX9_fittingBlanket_47 y_X9_isOnPile m_X9_336 rfl rfl e14 (t_x9_isOnPile (l := l) (G := G) e12) rfl rfl (Nat.le_of_ble_eq_true rfl) (by decide) ?_
    refine r_if_eq X 74 dX9_fittingBlanket_50 (by decide) (fun c15 => ?_) (fun c15 => ?_)
    · rw [if_pos c15] at E
      exact r_pick (by rfl : lpick [(4, .int x8), (0, .ref a0), (1, .int a1), (2, .int s0.1), (3, .int s0.2)] [1, 2, 3, 4, 0] = _) (t_x9_fittingBlanket_j74_23 X hl0 hr hnm hc hx E)
    · rw [if_neg c15] at E
      refine r_aload_n X 0 dX9_fittingBlanket_53 rfl rfl ?_
      refine r_iload_n X 1 dX9_fittingBlanket_54 rfl rfl ?_
      obtain ⟨u19, e20, E⟩ := gb_some E
      obtain ⟨r16, g17, e18, E⟩ := cb_some E
      refine r_callV0 X hl0 (ci := 9) dX9_fittingBlanket_55 y_X9_warmthBare m_X9_87 rfl rfl e20 (t_x9_warmthBare (l := l) (G := G) e18) rfl rfl (Nat.le_of_ble_eq_true rfl) (by decide) ?_
      refine r_iload X dX9_fittingBlanket_58 rfl ?_
      refine r_iadd X dX9_fittingBlanket_60 ?_
      refine r_aload_n X 0 dX9_fittingBlanket_61 rfl rfl ?_
      refine r_iload_n X 1 dX9_fittingBlanket_62 rfl rfl ?_
      refine r_iconst X (v := 0) dX9_fittingBlanket_63 (by decide) ?_
      obtain ⟨u24, e25, E⟩ := gb_some E
      obtain ⟨r21, g22, e23, E⟩ := cb_some E
      refine r_callV0 X hl0 (ci := 9) dX9_fittingBlanket_64 y_X9_get m_X9_64 rfl rfl e25 (t_x9_get (l := l) (G := G) e23) rfl rfl (Nat.le_of_ble_eq_true rfl) (by decide) ?_
      refine r_icmp_lt X 74 dX9_fittingBlanket_67 (by decide) (fun c26 => ?_) (fun c26 => ?_)
      · rw [if_pos c26] at E
        exact r_pick (by rfl : lpick [(4, .int x8), (0, .ref a0), (1, .int a1), (2, .int s0.1), (3, .int s0.2)] [1, 2, 3, 4, 0] = _) (t_x9_fittingBlanket_j74_23 X hl0 hr hnm hc hx E)
      · rw [if_neg c26] at E
        refine r_iconst X (v := 1) dX9_fittingBlanket_70 (by decide) ?_
        refine r_goto X 75 dX9_fittingBlanket_71 (by decide) ?_
        exact r_pick (by rfl : lpick [(4, .int x8), (0, .ref a0), (1, .int a1), (2, .int s0.1), (3, .int s0.2)] [1, 2, 3, 4, 0] = _) (t_x9_fittingBlanket_j75_23 X hl0 hr hnm hc hx E)
set_option maxHeartbeats 4000000 in
theorem t_x9_fittingBlanket_l23_r {l : Launch} {G : GG} {M : MC} (X : CX M G cX9_fittingBlanket 6 RX9 ⟨5, 0, 0, 149⟩) (hl0 : M.2.1 = l) (hr : (mM M).sig.returnType = (some .int)) (hnm : (mM M).name = yX9_fittingBlanket.name) {Q : State → Prop} {kc ks : Nat} {a0 : Nat} {a1 : Int32} : ∀ (n : Nat) (s0 : Int32 × Int32) (g : AH) (t : (Int32)) (g1 : AH), loopX (x9_fittingBlanket_l23 a0 a1) n s0 g = some (t, g1) → WW M G 6 Q kc ks g1 113 [(2, .int t)] [] → WW M G 6 Q kc ks g 23 [(0, .ref a0), (1, .int a1), (2, .int s0.1), (3, .int s0.2)] [] :=
  loop_cps (K := fun t g1 => WW M G 6 Q kc ks g1 113 [(2, .int t)] []) (fun _ s0 g => WW M G 6 Q kc ks g 23 [(0, .ref a0), (1, .int a1), (2, .int s0.1), (3, .int s0.2)] []) (fun n s0 g st g1 E hc hx => t_x9_fittingBlanket_l23 X hl0 hr hnm hc hx E)
set_option maxHeartbeats 4000000 in
set_option maxRecDepth 100000 in
theorem t_x9_fittingBlanket_b {l : Launch} {G : GG} {M : MC} (X : CX M G cX9_fittingBlanket 6 RX9 ⟨5, 0, 0, 149⟩) (hl0 : M.2.1 = l) (hr : (mM M).sig.returnType = (some .int)) (hnm : (mM M).name = yX9_fittingBlanket.name) {p : Nat} {b0 : Int32} {g : AH} {r : Int32} {g1 : AH} (E : x9_fittingBlanket p b0 g = some (r, g1)) : WW M G 6 (RQ M G (some (.int r)) g1 0 0) 0 0 g 0 [(0, .ref p), (1, .int b0)] [] := by
  unfold x9_fittingBlanket at E
  refine r_aload_n X 0 dX9_fittingBlanket_0 rfl rfl ?_
  refine r_iconst X (v := 0) dX9_fittingBlanket_1 (by decide) ?_
  obtain ⟨g1, e2, E⟩ := gb_some E
  refine r_put X dX9_fittingBlanket_2 f_X9_57 rfl rfl e2 ?_
  refine r_aload_n X 0 dX9_fittingBlanket_5 rfl rfl ?_
  refine r_iload_n X 1 dX9_fittingBlanket_6 rfl rfl ?_
  obtain ⟨u6, e7, E⟩ := gb_some E
  obtain ⟨r3, g4, e5, E⟩ := cb_some E
  refine r_callV0 X hl0 (ci := 9) dX9_fittingBlanket_7 y_X9_isHiker m_X9_324 rfl rfl e7 (t_x9_isHiker (l := l) (G := G) e5) rfl rfl (Nat.le_of_ble_eq_true rfl) (by decide) ?_
  refine r_if_ne X 19 dX9_fittingBlanket_10 (by decide) (fun c8 => ?_) (fun c8 => ?_)
  · rw [if_neg c8] at E
    refine r_iconst X (v := (-1)) dX9_fittingBlanket_19 (by decide) ?_
    refine r_istore_n X 2 (L1 := [(2, .int (-1)), (0, .ref p), (1, .int b0)]) dX9_fittingBlanket_20 rfl (by decide) rfl ?_
    refine r_iconst X (v := 0) dX9_fittingBlanket_21 (by decide) ?_
    refine r_istore_n X 3 (L1 := [(3, .int 0), (2, .int (-1)), (0, .ref p), (1, .int b0)]) dX9_fittingBlanket_22 rfl (by decide) rfl ?_
    obtain ⟨t9, g10, e11, E⟩ := cb_some E
    refine r_pick (by rfl : lpick [(3, .int 0), (2, .int (-1)), (0, .ref p), (1, .int b0)] [2, 3, 1, 0] = _) (t_x9_fittingBlanket_l23_r X hl0 hr hnm _ _ _ _ _ e11 ?_)
    refine r_iload_n X 2 dX9_fittingBlanket_113 rfl rfl ?_
    cases E
    exact r_iret X hr dX9_fittingBlanket_114 (by decide) (by decide)
  · rw [if_pos c8] at E
    refine r_aload_n X 0 dX9_fittingBlanket_13 rfl rfl ?_
    refine r_iconst X (v := 1) dX9_fittingBlanket_14 (by decide) ?_
    obtain ⟨u15, e16, E⟩ := gb_some E
    obtain ⟨r12, g13, e14, E⟩ := cb_some E
    refine r_callV0 X hl0 (ci := 9) dX9_fittingBlanket_15 y_X9_fail m_X9_141 rfl rfl e16 (t_x9_fail (l := l) (G := G) e14) rfl rfl (Nat.le_of_ble_eq_true rfl) (by decide) ?_
    cases E
    exact r_iret X hr dX9_fittingBlanket_18 (by decide) (by decide)
theorem t_x9_fittingBlanket {l : Launch} {G : GG} {p : Nat} {b0 : Int32} {g : AH} {r : Int32} {g1 : AH} (E : x9_fittingBlanket p b0 g = some (r, g1)) : Ct l G yX9_fittingBlanket cX9_fittingBlanket 6 (some .int) ⟨5, 0, 0, 149⟩ [.ref p, .int b0] g (some (.int r)) g1 :=
  ct_of (L0 := [(0, .ref p), (1, .int b0)]) y_X9_fittingBlanket rfl (Nat.le_of_ble_eq_true rfl) fun M hl0 X hr hnm => t_x9_fittingBlanket_b X hl0 hr hnm E
set_option maxHeartbeats 4000000 in
set_option maxRecDepth 100000 in
theorem t_x9_hikerCount_b {l : Launch} {G : GG} {M : MC} (X : CX M G cX9_hikerCount 1 RX9 ⟨2, 0, 0, 81⟩) (hl0 : M.2.1 = l) (hr : (mM M).sig.returnType = (some .int)) (hnm : (mM M).name = yX9_hikerCount.name) {p : Nat} {g : AH} {r : Int32} {g1 : AH} (E : x9_hikerCount p g = some (r, g1)) : WW M G 1 (RQ M G (some (.int r)) g1 0 0) 0 0 g 0 [(0, .ref p)] [] := by
  unfold x9_hikerCount at E
  refine r_aload_n X 0 dX9_hikerCount_0 rfl rfl ?_
  refine r_aload_n X 0 dX9_hikerCount_1 rfl rfl ?_
  obtain ⟨x1, e2, E⟩ := gb_some E
  refine r_getR X dX9_hikerCount_2 f_X9_7 e2 ?_
  refine r_bipush X (v := 12) dX9_hikerCount_5 (by decide) ?_
  obtain ⟨x3, e4, E⟩ := gb_some E
  refine r_iald X dX9_hikerCount_7 e4 ?_
  obtain ⟨u8, e9, E⟩ := gb_some E
  obtain ⟨r5, g6, e7, E⟩ := cb_some E
  refine r_callV0 X hl0 (ci := 9) dX9_hikerCount_8 y_X9_tell m_X9_305 rfl rfl e9 (t_x9_tell (l := l) (G := G) e7) rfl rfl (Nat.le_of_ble_eq_true rfl) (by decide) ?_
  cases E
  exact r_iret X hr dX9_hikerCount_11 (by decide) (by decide)
theorem t_x9_hikerCount {l : Launch} {G : GG} {p : Nat} {g : AH} {r : Int32} {g1 : AH} (E : x9_hikerCount p g = some (r, g1)) : Ct l G yX9_hikerCount cX9_hikerCount 1 (some .int) ⟨2, 0, 0, 81⟩ [.ref p] g (some (.int r)) g1 :=
  ct_of (L0 := [(0, .ref p)]) y_X9_hikerCount rfl (Nat.le_of_ble_eq_true rfl) fun M hl0 X hr hnm => t_x9_hikerCount_b X hl0 hr hnm E
set_option maxHeartbeats 4000000 in
set_option maxRecDepth 100000 in
theorem t_x9_tellOf_b {l : Launch} {G : GG} {M : MC} (X : CX M G cX9_tellOf 3 RX9 ⟨3, 0, 0, 103⟩) (hl0 : M.2.1 = l) (hr : (mM M).sig.returnType = (some .int)) (hnm : (mM M).name = yX9_tellOf.name) {p : Nat} {b0 : Int32} {b1 : Int32} {g : AH} {r : Int32} {g1 : AH} (E : x9_tellOf p b0 b1 g = some (r, g1)) : WW M G 3 (RQ M G (some (.int r)) g1 0 0) 0 0 g 0 [(0, .ref p), (1, .int b0), (2, .int b1)] [] := by
  unfold x9_tellOf at E
  refine r_aload_n X 0 dX9_tellOf_0 rfl rfl ?_
  refine r_iconst X (v := 0) dX9_tellOf_1 (by decide) ?_
  obtain ⟨g1, e2, E⟩ := gb_some E
  refine r_put X dX9_tellOf_2 f_X9_57 rfl rfl e2 ?_
  refine r_aload_n X 0 dX9_tellOf_5 rfl rfl ?_
  refine r_iload_n X 1 dX9_tellOf_6 rfl rfl ?_
  obtain ⟨u6, e7, E⟩ := gb_some E
  obtain ⟨r3, g4, e5, E⟩ := cb_some E
  refine r_callV0 X hl0 (ci := 9) dX9_tellOf_7 y_X9_isHiker m_X9_324 rfl rfl e7 (t_x9_isHiker (l := l) (G := G) e5) rfl rfl (Nat.le_of_ble_eq_true rfl) (by decide) ?_
  refine r_if_eq X 22 dX9_tellOf_10 (by decide) (fun c8 => ?_) (fun c8 => ?_)
  · rw [if_pos c8] at E
    refine r_aload_n X 0 dX9_tellOf_22 rfl rfl ?_
    refine r_iconst X (v := 1) dX9_tellOf_23 (by decide) ?_
    obtain ⟨u12, e13, E⟩ := gb_some E
    obtain ⟨r9, g10, e11, E⟩ := cb_some E
    refine r_callV0 X hl0 (ci := 9) dX9_tellOf_24 y_X9_fail m_X9_141 rfl rfl e13 (t_x9_fail (l := l) (G := G) e11) rfl rfl (Nat.le_of_ble_eq_true rfl) (by decide) ?_
    cases E
    exact r_iret X hr dX9_tellOf_27 (by decide) (by decide)
  · rw [if_neg c8] at E
    refine r_aload_n X 0 dX9_tellOf_13 rfl rfl ?_
    refine r_iload_n X 1 dX9_tellOf_14 rfl rfl ?_
    refine r_iload_n X 2 dX9_tellOf_15 rfl rfl ?_
    obtain ⟨u17, e18, E⟩ := gb_some E
    obtain ⟨r14, g15, e16, E⟩ := cb_some E
    refine r_callV0 X hl0 (ci := 9) dX9_tellOf_16 y_X9_get m_X9_64 rfl rfl e18 (t_x9_get (l := l) (G := G) e16) rfl rfl (Nat.le_of_ble_eq_true rfl) (by decide) ?_
    refine r_goto X 27 dX9_tellOf_19 (by decide) ?_
    cases E
    exact r_iret X hr dX9_tellOf_27 (by decide) (by decide)
theorem t_x9_tellOf {l : Launch} {G : GG} {p : Nat} {b0 : Int32} {b1 : Int32} {g : AH} {r : Int32} {g1 : AH} (E : x9_tellOf p b0 b1 g = some (r, g1)) : Ct l G yX9_tellOf cX9_tellOf 3 (some .int) ⟨3, 0, 0, 103⟩ [.ref p, .int b0, .int b1] g (some (.int r)) g1 :=
  ct_of (L0 := [(0, .ref p), (1, .int b0), (2, .int b1)]) y_X9_tellOf rfl (Nat.le_of_ble_eq_true rfl) fun M hl0 X hr hnm => t_x9_tellOf_b X hl0 hr hnm E
set_option maxHeartbeats 4000000 in
set_option maxRecDepth 100000 in
theorem t_x9_bunkOf_b {l : Launch} {G : GG} {M : MC} (X : CX M G cX9_bunkOf 2 RX9 ⟨4, 0, 0, 125⟩) (hl0 : M.2.1 = l) (hr : (mM M).sig.returnType = (some .int)) (hnm : (mM M).name = yX9_bunkOf.name) {p : Nat} {b0 : Int32} {g : AH} {r : Int32} {g1 : AH} (E : x9_bunkOf p b0 g = some (r, g1)) : WW M G 2 (RQ M G (some (.int r)) g1 0 0) 0 0 g 0 [(0, .ref p), (1, .int b0)] [] := by
  unfold x9_bunkOf at E
  refine r_aload_n X 0 dX9_bunkOf_0 rfl rfl ?_
  refine r_iload_n X 1 dX9_bunkOf_1 rfl rfl ?_
  refine r_iconst X (v := 4) dX9_bunkOf_2 (by decide) ?_
  obtain ⟨u4, e5, E⟩ := gb_some E
  obtain ⟨r1, g2, e3, E⟩ := cb_some E
  refine r_callV0 X hl0 (ci := 9) dX9_bunkOf_3 y_X9_tellOf m_X9_345 rfl rfl e5 (t_x9_tellOf (l := l) (G := G) e3) rfl rfl (Nat.le_of_ble_eq_true rfl) (by decide) ?_
  cases E
  exact r_iret X hr dX9_bunkOf_6 (by decide) (by decide)
theorem t_x9_bunkOf {l : Launch} {G : GG} {p : Nat} {b0 : Int32} {g : AH} {r : Int32} {g1 : AH} (E : x9_bunkOf p b0 g = some (r, g1)) : Ct l G yX9_bunkOf cX9_bunkOf 2 (some .int) ⟨4, 0, 0, 125⟩ [.ref p, .int b0] g (some (.int r)) g1 :=
  ct_of (L0 := [(0, .ref p), (1, .int b0)]) y_X9_bunkOf rfl (Nat.le_of_ble_eq_true rfl) fun M hl0 X hr hnm => t_x9_bunkOf_b X hl0 hr hnm E
set_option maxHeartbeats 4000000 in
set_option maxRecDepth 100000 in
theorem t_x9_blanketOf_b {l : Launch} {G : GG} {M : MC} (X : CX M G cX9_blanketOf 2 RX9 ⟨4, 0, 0, 125⟩) (hl0 : M.2.1 = l) (hr : (mM M).sig.returnType = (some .int)) (hnm : (mM M).name = yX9_blanketOf.name) {p : Nat} {b0 : Int32} {g : AH} {r : Int32} {g1 : AH} (E : x9_blanketOf p b0 g = some (r, g1)) : WW M G 2 (RQ M G (some (.int r)) g1 0 0) 0 0 g 0 [(0, .ref p), (1, .int b0)] [] := by
  unfold x9_blanketOf at E
  refine r_aload_n X 0 dX9_blanketOf_0 rfl rfl ?_
  refine r_iload_n X 1 dX9_blanketOf_1 rfl rfl ?_
  refine r_iconst X (v := 5) dX9_blanketOf_2 (by decide) ?_
  obtain ⟨u4, e5, E⟩ := gb_some E
  obtain ⟨r1, g2, e3, E⟩ := cb_some E
  refine r_callV0 X hl0 (ci := 9) dX9_blanketOf_3 y_X9_tellOf m_X9_345 rfl rfl e5 (t_x9_tellOf (l := l) (G := G) e3) rfl rfl (Nat.le_of_ble_eq_true rfl) (by decide) ?_
  cases E
  exact r_iret X hr dX9_blanketOf_6 (by decide) (by decide)
theorem t_x9_blanketOf {l : Launch} {G : GG} {p : Nat} {b0 : Int32} {g : AH} {r : Int32} {g1 : AH} (E : x9_blanketOf p b0 g = some (r, g1)) : Ct l G yX9_blanketOf cX9_blanketOf 2 (some .int) ⟨4, 0, 0, 125⟩ [.ref p, .int b0] g (some (.int r)) g1 :=
  ct_of (L0 := [(0, .ref p), (1, .int b0)]) y_X9_blanketOf rfl (Nat.le_of_ble_eq_true rfl) fun M hl0 X hr hnm => t_x9_blanketOf_b X hl0 hr hnm E
set_option maxHeartbeats 4000000 in
set_option maxRecDepth 100000 in
theorem t_x9_warmth_b {l : Launch} {G : GG} {M : MC} (X : CX M G cX9_warmth 2 RX9 ⟨6, 0, 0, 170⟩) (hl0 : M.2.1 = l) (hr : (mM M).sig.returnType = (some .int)) (hnm : (mM M).name = yX9_warmth.name) {p : Nat} {b0 : Int32} {g : AH} {r : Int32} {g1 : AH} (E : x9_warmth p b0 g = some (r, g1)) : WW M G 2 (RQ M G (some (.int r)) g1 0 0) 0 0 g 0 [(0, .ref p), (1, .int b0)] [] := by
  unfold x9_warmth at E
  refine r_aload_n X 0 dX9_warmth_0 rfl rfl ?_
  refine r_iconst X (v := 0) dX9_warmth_1 (by decide) ?_
  obtain ⟨g1, e2, E⟩ := gb_some E
  refine r_put X dX9_warmth_2 f_X9_57 rfl rfl e2 ?_
  refine r_aload_n X 0 dX9_warmth_5 rfl rfl ?_
  refine r_iload_n X 1 dX9_warmth_6 rfl rfl ?_
  obtain ⟨u6, e7, E⟩ := gb_some E
  obtain ⟨r3, g4, e5, E⟩ := cb_some E
  refine r_callV0 X hl0 (ci := 9) dX9_warmth_7 y_X9_isHiker m_X9_324 rfl rfl e7 (t_x9_isHiker (l := l) (G := G) e5) rfl rfl (Nat.le_of_ble_eq_true rfl) (by decide) ?_
  refine r_if_eq X 21 dX9_warmth_10 (by decide) (fun c8 => ?_) (fun c8 => ?_)
  · rw [if_pos c8] at E
    refine r_aload_n X 0 dX9_warmth_21 rfl rfl ?_
    refine r_iconst X (v := 1) dX9_warmth_22 (by decide) ?_
    obtain ⟨u12, e13, E⟩ := gb_some E
    obtain ⟨r9, g10, e11, E⟩ := cb_some E
    refine r_callV0 X hl0 (ci := 9) dX9_warmth_23 y_X9_fail m_X9_141 rfl rfl e13 (t_x9_fail (l := l) (G := G) e11) rfl rfl (Nat.le_of_ble_eq_true rfl) (by decide) ?_
    cases E
    exact r_iret X hr dX9_warmth_26 (by decide) (by decide)
  · rw [if_neg c8] at E
    refine r_aload_n X 0 dX9_warmth_13 rfl rfl ?_
    refine r_iload_n X 1 dX9_warmth_14 rfl rfl ?_
    obtain ⟨u17, e18, E⟩ := gb_some E
    obtain ⟨r14, g15, e16, E⟩ := cb_some E
    refine r_callV0 X hl0 (ci := 9) dX9_warmth_15 y_X9_warmthNow m_X9_93 rfl rfl e18 (t_x9_warmthNow (l := l) (G := G) e16) rfl rfl (Nat.le_of_ble_eq_true rfl) (by decide) ?_
    refine r_goto X 26 dX9_warmth_18 (by decide) ?_
    cases E
    exact r_iret X hr dX9_warmth_26 (by decide) (by decide)
theorem t_x9_warmth {l : Launch} {G : GG} {p : Nat} {b0 : Int32} {g : AH} {r : Int32} {g1 : AH} (E : x9_warmth p b0 g = some (r, g1)) : Ct l G yX9_warmth cX9_warmth 2 (some .int) ⟨6, 0, 0, 170⟩ [.ref p, .int b0] g (some (.int r)) g1 :=
  ct_of (L0 := [(0, .ref p), (1, .int b0)]) y_X9_warmth rfl (Nat.le_of_ble_eq_true rfl) fun M hl0 X hr hnm => t_x9_warmth_b X hl0 hr hnm E
