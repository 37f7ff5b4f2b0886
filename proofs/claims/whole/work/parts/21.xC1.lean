/-! functions and contracts, by program: readHikerAnd, readArguments, readScript, hasHiker, userOfBlanket, faultOfTake, faultOfReturn, faultOfSwap, sleeperIn, faultOfLie, faultOfRise, faultOfFetch, faultOfPay, faultOfPass, faultOf, keep, giveBlanket, exchangeBlankets, noiseAt, activityNow, countOf, coldCount, moveTo, changeRate, addLogs, payBack, burnLogs, noteWhatHappens, payOut, payForNight, partOfLogs, payForLogs, feeForBlanket, hikersWithoutBlanket, payForBlankets, endHour, passTime, perform, runScript, errorCode, errorPosition, hour, hoursToDawn, hoursUntilDawn, logs, temperature, demandBunk, hikerIn, noiseIn, isQuieter, quietestEmptyBunk, quietestBunk, longestRowOfSleepers, longestRow, demandHiker, isFreeFor, placeForMostSleep -/
def x0_readHikerAnd (p : Nat) (b0 : Nat) (b1 : Int32) (b2 : Int32) (b3 : Int32) (g : AH) : Option (Int32 × AH) :=
  gb (getR 6 g b0 1) fun x1 => gb (isO 0 g p) fun _ => cb (x0_readInto p x1 b1 0 9 g) fun r3 g4 => if r3 = 0 then
  some (0, g4)
  else
  gb (getR 6 g4 b0 2) fun x9 => gb (isO 0 g4 p) fun _ => cb (x0_readInto p x9 b1 b2 b3 g4) fun r11 g12 => if r11 = 0 then
  some (0, g12)
  else
  some (1, g12)
def x0_readArguments (p : Nat) (b0 : Nat) (b1 : Int32) (g : AH) : Option (Int32 × AH) :=
  gb (getR 6 g b0 0) fun x1 => gb (aldI 0 g x1 b1) fun x3 => if x3 = 0 then
  gb (isO 0 g p) fun _ => cb (x0_readHikerAnd p b0 b1 0 11 g) fun r6 g7 => if bz r6 then some (r6, g7) else none
  else if x3 = 1 then
  gb (getR 6 g b0 1) fun x13 => gb (isO 0 g p) fun _ => cb (x0_readInto p x13 b1 0 9 g) fun r15 g16 => if bz r15 then some (r15, g16) else none
  else if x3 = 2 then
  gb (isO 0 g p) fun _ => cb (x0_readHikerAnd p b0 b1 0 9 g) fun r22 g23 => if bz r22 then some (r22, g23) else none
  else if x3 = 3 then
  gb (isO 0 g p) fun _ => cb (x0_readHikerAnd p b0 b1 0 11 g) fun r29 g30 => if bz r29 then some (r29, g30) else none
  else if x3 = 4 then
  gb (getR 6 g b0 1) fun x36 => gb (isO 0 g p) fun _ => cb (x0_readInto p x36 b1 0 9 g) fun r38 g39 => if bz r38 then some (r38, g39) else none
  else if x3 = 5 then
  gb (getR 6 g b0 1) fun x45 => gb (isO 0 g p) fun _ => cb (x0_readInto p x45 b1 0 3 g) fun r47 g48 => if bz r47 then some (r47, g48) else none
  else if x3 = 6 then
  gb (getR 6 g b0 1) fun x54 => gb (isO 0 g p) fun _ => cb (x0_readInto p x54 b1 1 50 g) fun r56 g57 => if bz r56 then some (r56, g57) else none
  else if x3 = 7 then
  gb (isO 0 g p) fun _ => cb (x0_readHikerAnd p b0 b1 1 99 g) fun r63 g64 => if bz r63 then some (r63, g64) else none
  else if x3 = 8 then
  gb (getR 6 g b0 1) fun x70 => gb (isO 0 g p) fun _ => cb (x0_readInto p x70 b1 1 48 g) fun r72 g73 => if bz r72 then some (r72, g73) else none
  else gb (getR 6 g b0 1) fun x78 => gb (isO 0 g p) fun _ => cb (x0_readInto p x78 b1 0 9 g) fun r80 g81 => if bz r80 then some (r80, g81) else none
def x0_readScript_l6 (a0 : Nat) (a1 : Nat) (s0 : Int32) (g : AH) : Option (((Int32) ⊕ ((Unit) ⊕ Int32)) × AH) :=
  if 30 < s0 then
  some (.inr (.inl ()), g)
  else
  gb (putV 6 g a1 3 (.int s0)) fun g2 => gb (getR 0 g2 a0 0) fun x4 => gb (getI 7 g2 x4 2) fun x6 => if x6 = 0 then
  some (.inr (.inr 1), g2)
  else
  gb (isO 0 g2 a0) fun _ => cb (x0_commandOfWord a0 g2) fun r9 g10 => if r9 = (-1) then
  gb (isO 0 g10 a0) fun _ => cb (x0_fail a0 1 g10) fun r45 g46 => if bz r45 then some (.inr (.inr r45), g46) else none
  else
  if s0 < 30 then
  gb (getR 0 g10 a0 0) fun x16 => gb (isO 7 g10 x16) fun _ => cb (x7_readNext x16 g10) fun r18 g19 => gb (getR 6 g19 a1 0) fun x23 => gb (astI 0 g19 x23 s0 r9) fun g25 => gb (isO 0 g25 a0) fun _ => cb (x0_readArguments a0 a1 s0 g25) fun r27 g28 => if r27 = 0 then
  some (.inr (.inr 0), g28)
  else
  gb (isO 0 g28 a0) fun _ => cb (x0_readSemicolon a0 g28) fun r33 g34 => if r33 = 0 then
  some (.inr (.inr 0), g34)
  else
  some (.inl (s0 + 1), g34)
  else
  gb (isO 0 g10 a0) fun _ => cb (x0_fail a0 3 g10) fun r39 g40 => if bz r39 then some (.inr (.inr r39), g40) else none
def x0_readScript (p : Nat) (b0 : Nat) (g : AH) : Option (Int32 × AH) :=
  gb (isO 0 g p) fun _ => cb (x0_begin p g) fun r1 g2 => cb (loopX (x0_readScript_l6 p b0) 1000 0 g2) fun t6 g7 => Sum.elim (fun t9 =>
  some (0, g7)) (fun t10 => some (t10, g7)) t6
def x3_hasHiker (p : Nat) (b0 : Int32) (g : AH) : Option (Int32 × AH) :=
  if b0 < 0 then
  some (0, g)
  else
  gb (getI 3 g p 12) fun x2 => if x2 ≤ b0 then
  some (0, g)
  else
  some (1, g)
def x3_userOfBlanket_l2 (a0 : Nat) (a1 : Int32) (s0 : Int32) (g : AH) : Option (((Int32) ⊕ ((Unit) ⊕ Int32)) × AH) :=
  gb (getI 3 g a0 12) fun x1 => if x1 ≤ s0 then
  some (.inr (.inl ()), g)
  else
  gb (getR 3 g a0 18) fun x4 => gb (aldR 4 g x4 s0) fun x6 => gb (getI 1 g x6 5) fun x8 => if x8 = a1 then
  some (.inr (.inr s0), g)
  else
  some (.inl (s0 + 1), g)
def x3_userOfBlanket (p : Nat) (b0 : Int32) (g : AH) : Option (Int32 × AH) :=
  cb (loopX (x3_userOfBlanket_l2 p b0) 1000 0 g) fun t1 g2 => Sum.elim (fun t4 =>
  some ((-1), g2)) (fun t5 => some (t5, g2)) t1
def x3_faultOfTake (p : Nat) (b0 : Int32) (b1 : Int32) (g : AH) : Option (Int32 × AH) :=
  gb (isO 3 g p) fun _ => cb (x3_hasHiker p b0 g) fun r1 g2 => if r1 = 0 then
  some (1, g2)
  else
  gb (isO 3 g2 p) fun _ => cb (x3_hasBlanket p b1 g2) fun r7 g8 => if r7 = 0 then
  some (1, g8)
  else
  gb (isO 3 g8 p) fun _ => cb (x3_userOfBlanket p b1 g8) fun r13 g14 => if r13 = (-1) then
  some (0, g14)
  else
  some (3, g14)
def x3_faultOfReturn (p : Nat) (b0 : Int32) (g : AH) : Option (Int32 × AH) :=
  gb (isO 3 g p) fun _ => cb (x3_hasHiker p b0 g) fun r1 g2 => if r1 = 0 then
  some (1, g2)
  else
  gb (getR 3 g2 p 18) fun x7 => gb (aldR 4 g2 x7 b0) fun x9 => gb (getI 1 g2 x9 5) fun x11 => if x11 = (-1) then
  some (3, g2)
  else
  some (0, g2)
def x3_faultOfSwap_j59  (g : AH) : Option (Int32 × AH) :=
  some (3, g)
def x3_faultOfSwap_j49 (a1 : Int32) (a2 : Int32) (s0 : Int32) (g : AH) : Option (Int32 × AH) :=
  if a1 = a2 then
  x3_faultOfSwap_j59  g
  else
  if s0 = 0 then
  some (0, g)
  else
  x3_faultOfSwap_j59  g
def x3_faultOfSwap_j48 (a1 : Int32) (a2 : Int32) (g : AH) : Option (Int32 × AH) :=
  x3_faultOfSwap_j49 a1 a2 0 g
def x3_faultOfSwap (p : Nat) (b0 : Int32) (b1 : Int32) (g : AH) : Option (Int32 × AH) :=
  gb (isO 3 g p) fun _ => cb (x3_hasHiker p b0 g) fun r1 g2 => if r1 = 0 then
  some (1, g2)
  else
  gb (isO 3 g2 p) fun _ => cb (x3_hasHiker p b1 g2) fun r7 g8 => if r7 = 0 then
  some (1, g8)
  else
  gb (getR 3 g8 p 18) fun x13 => gb (aldR 4 g8 x13 b0) fun x15 => gb (getI 1 g8 x15 5) fun x17 => if x17 = (-1) then
  gb (getR 3 g8 p 18) fun x20 => gb (aldR 4 g8 x20 b1) fun x22 => gb (getI 1 g8 x22 5) fun x24 => if x24 = (-1) then
  x3_faultOfSwap_j49 b0 b1 1 g8
  else
  x3_faultOfSwap_j48 b0 b1 g8
  else
  x3_faultOfSwap_j48 b0 b1 g8
def x3_sleeperIn (p : Nat) (b0 : Int32) (g : AH) : Option (Int32 × AH) :=
  gb (isO 3 g p) fun _ => cb (x3_hasBunk p b0 g) fun r1 g2 => if r1 = 0 then
  some ((-1), g2)
  else
  gb (getR 3 g2 p 16) fun x7 => gb (aldI 0 g2 x7 (b0 + 2)) fun x9 => some (x9, g2)
def x3_faultOfLie (p : Nat) (b0 : Int32) (b1 : Int32) (g : AH) : Option (Int32 × AH) :=
  gb (isO 3 g p) fun _ => cb (x3_hasHiker p b0 g) fun r1 g2 => if r1 = 0 then
  some (1, g2)
  else
  gb (isO 3 g2 p) fun _ => cb (x3_hasBunk p b1 g2) fun r7 g8 => if r7 = 0 then
  some (1, g8)
  else
  gb (isO 3 g8 p) fun _ => cb (x3_sleeperIn p b1 g8) fun r13 g14 => if r13 = (-1) then
  some (0, g14)
  else
  some (3, g14)
def x3_faultOfRise (p : Nat) (b0 : Int32) (g : AH) : Option (Int32 × AH) :=
  gb (isO 3 g p) fun _ => cb (x3_hasHiker p b0 g) fun r1 g2 => if r1 = 0 then
  some (1, g2)
  else
  gb (getR 3 g2 p 18) fun x7 => gb (aldR 4 g2 x7 b0) fun x9 => gb (getI 1 g2 x9 4) fun x11 => if x11 = (-1) then
  some (3, g2)
  else
  some (0, g2)
def x3_faultOfFetch (p : Nat) (b0 : Int32) (g : AH) : Option (Int32 × AH) :=
  cb (x8_isWithin b0 1 50 g) fun r1 g2 => if r1 = 0 then
  some (2, g2)
  else
  gb (getI 3 g2 p 1) fun x5 => if (x5 + b0) ≤ 99 then
  some (0, g2)
  else
  some (3, g2)
def x3_faultOfPay_j53 (s0 : Int32) (g : AH) : Option (Int32 × AH) :=
  if s0 = 0 then
  some (0, g)
  else
  some (3, g)
def x3_faultOfPay_j48  (g : AH) : Option (Int32 × AH) :=
  x3_faultOfPay_j53 1 g
def x3_faultOfPay (p : Nat) (b0 : Int32) (b1 : Int32) (g : AH) : Option (Int32 × AH) :=
  gb (isO 3 g p) fun _ => cb (x3_hasHiker p b0 g) fun r1 g2 => if r1 = 0 then
  some (1, g2)
  else
  cb (x8_isWithin b1 1 99 g2) fun r7 g8 => if r7 = 0 then
  some (2, g8)
  else
  gb (getR 3 g8 p 18) fun x11 => gb (aldR 4 g8 x11 b0) fun x13 => gb (getI 1 g8 x13 2) fun x15 => if x15 < b1 then
  x3_faultOfPay_j48  g8
  else
  gb (getR 3 g8 p 18) fun x18 => gb (aldR 4 g8 x18 b0) fun x20 => gb (getI 1 g8 x20 3) fun x22 => if b1 ≤ x22 then
  x3_faultOfPay_j53 0 g8
  else
  x3_faultOfPay_j48  g8
def x3_faultOfPass (p : Nat) (b0 : Int32) (g : AH) : Option (Int32 × AH) :=
  cb (x8_isWithin b0 1 48 g) fun r1 g2 => if r1 = 0 then
  some (2, g2)
  else
  gb (getI 3 g2 p 0) fun x5 => if (x5 + b0) ≤ 9999 then
  some (0, g2)
  else
  some (3, g2)
def x3_faultOf (p : Nat) (b0 : Int32) (b1 : Int32) (b2 : Int32) (g : AH) : Option (Int32 × AH) :=
  if b0 = 0 then
  gb (isO 3 g p) fun _ => cb (x3_faultOfTake p b1 b2 g) fun r2 g3 => some (r2, g3)
  else if b0 = 1 then
  gb (isO 3 g p) fun _ => cb (x3_faultOfReturn p b1 g) fun r8 g9 => some (r8, g9)
  else if b0 = 2 then
  gb (isO 3 g p) fun _ => cb (x3_faultOfSwap p b1 b2 g) fun r14 g15 => some (r14, g15)
  else if b0 = 3 then
  gb (isO 3 g p) fun _ => cb (x3_faultOfLie p b1 b2 g) fun r20 g21 => some (r20, g21)
  else if b0 = 4 then
  gb (isO 3 g p) fun _ => cb (x3_faultOfRise p b1 g) fun r26 g27 => some (r26, g27)
  else if b0 = 5 then
  cb (x8_isWithin b1 0 3 g) fun r32 g33 => if r32 = 0 then
  some (2, g33)
  else
  some (0, g33)
  else if b0 = 6 then
  gb (isO 3 g p) fun _ => cb (x3_faultOfFetch p b1 g) fun r37 g38 => some (r37, g38)
  else if b0 = 7 then
  gb (isO 3 g p) fun _ => cb (x3_faultOfPay p b1 b2 g) fun r43 g44 => some (r43, g44)
  else gb (isO 3 g p) fun _ => cb (x3_faultOfPass p b1 g) fun r48 g49 => some (r48, g49)
def x2_keep (p : Nat) (b0 : Nat) (g : AH) : Option (Unit × AH) :=
  gb (getR 2 g p 0) fun x1 => gb (getI 2 g p 1) fun x3 => gb (aldR 5 g x1 x3) fun x5 => gb (isO 3 g x5) fun _ => cb (x3_copyFrom x5 b0 g) fun r7 g8 => gb (getI 2 g8 p 1) fun x12 => gb (putV 2 g8 p 1 (.int ((x12 + 1) - (x12 + 1) / 6 * 6))) fun g15 => gb (getI 2 g15 p 2) fun x17 => gb (putV 2 g15 p 2 (.int (if 6 < (x17 + 1) then 6 else (x17 + 1)))) fun g19 => some ((), g19)
def x3_giveBlanket (p : Nat) (b0 : Int32) (b1 : Int32) (g : AH) : Option (Int32 × AH) :=
  gb (getR 3 g p 18) fun x1 => gb (aldR 4 g x1 b0) fun x3 => gb (getI 1 g x3 5) fun x5 => gb (getR 3 g p 18) fun x7 => gb (aldR 4 g x7 b0) fun x9 => gb (putV 1 g x9 5 (.int b1)) fun g11 => gb (isO 3 g11 p) fun _ => cb (x3_measure p g11) fun r13 g14 => some (x5, g14)
def x3_exchangeBlankets (p : Nat) (b0 : Int32) (b1 : Int32) (g : AH) : Option (Unit × AH) :=
  gb (getR 3 g p 18) fun x1 => gb (aldR 4 g x1 b0) fun x3 => gb (getI 1 g x3 5) fun x5 => gb (getR 3 g p 18) fun x7 => gb (aldR 4 g x7 b0) fun x9 => gb (getR 3 g p 18) fun x11 => gb (aldR 4 g x11 b1) fun x13 => gb (getI 1 g x13 5) fun x15 => gb (putV 1 g x9 5 (.int x15)) fun g17 => gb (getR 3 g17 p 18) fun x19 => gb (aldR 4 g17 x19 b1) fun x21 => gb (putV 1 g17 x21 5 (.int x5)) fun g23 => gb (isO 3 g23 p) fun _ => cb (x3_measure p g23) fun r25 g26 => some ((), g26)
def x3_noiseAt (p : Nat) (b0 : Int32) (g : AH) : Option (Int32 × AH) :=
  if b0 < 0 then
  some (0, g)
  else
  gb (getI 3 g p 9) fun x2 => if b0 < x2 then
  gb (getR 3 g p 17) fun x5 => gb (aldI 0 g x5 ((b0 + 2) - 1)) fun x7 => gb (getR 3 g p 17) fun x9 => gb (aldI 0 g x9 ((b0 + 2) + 1)) fun x11 => gb (getR 3 g p 17) fun x13 => gb (aldI 0 g x13 ((b0 + 2) - 2)) fun x15 => gb (getR 3 g p 17) fun x17 => gb (aldI 0 g x17 ((b0 + 2) + 2)) fun x19 => some (((x7 + x11) + ((x15 + x19) / 2)), g)
  else
  some (0, g)
def x3_activityNow (p : Nat) (b0 : Int32) (g : AH) : Option (Int32 × AH) :=
  gb (getR 3 g p 18) fun x1 => gb (aldR 4 g x1 b0) fun x3 => gb (isO 1 g x3) fun _ => cb (x1_isCold x3 g) fun r5 g6 => if r5 = 0 then
  gb (getI 1 g6 x3 4) fun x11 => if x11 = (-1) then
  some (3, g6)
  else
  gb (getI 1 g6 x3 4) fun x14 => gb (isO 3 g6 p) fun _ => cb (x3_noiseAt p x14 g6) fun r16 g17 => if r16 ≤ 6 then
  some (2, g17)
  else
  some (1, g17)
  else
  some (0, g6)
def x3_countOf_j24_4 (a0 : Nat) (a1 : Int32) (a2 : Int32) (a3 : Int32) (g : AH) : Option (((Int32 × Int32) ⊕ (Int32)) × AH) :=
  some (.inl (a2, (a3 + 1)), g)
def x3_countOf_l4 (a0 : Nat) (a1 : Int32) (s0 : Int32 × Int32) (g : AH) : Option (((Int32 × Int32) ⊕ (Int32)) × AH) :=
  gb (getI 3 g a0 12) fun x1 => if x1 ≤ s0.2 then
  some (.inr s0.1, g)
  else
  gb (isO 3 g a0) fun _ => cb (x3_activityNow a0 s0.2 g) fun r4 g5 => if r4 = a1 then
  x3_countOf_j24_4 a0 a1 (s0.1 + 1) s0.2 g5
  else
  x3_countOf_j24_4 a0 a1 s0.1 s0.2 g5
def x3_countOf (p : Nat) (b0 : Int32) (g : AH) : Option (Int32 × AH) :=
  cb (loopX (x3_countOf_l4 p b0) 1000 (0, 0) g) fun t1 g2 =>
  some (t1, g2)
def x3_coldCount (p : Nat) (g : AH) : Option (Int32 × AH) :=
  gb (isO 3 g p) fun _ => cb (x3_countOf p 0 g) fun r1 g2 => some (r1, g2)
def x3_moveTo_j44 (a0 : Nat) (a1 : Int32) (a2 : Int32) (a3 : Int32) (g : AH) : Option (Int32 × AH) :=
  gb (getR 3 g a0 18) fun x1 => gb (aldR 4 g x1 a1) fun x3 => gb (putV 1 g x3 4 (.int a2)) fun g5 => gb (isO 3 g5 a0) fun _ => cb (x3_measure a0 g5) fun r7 g8 => some (a3, g8)
def x3_moveTo_j27 (a0 : Nat) (a1 : Int32) (a2 : Int32) (a3 : Int32) (g : AH) : Option (Int32 × AH) :=
  gb (isO 3 g a0) fun _ => cb (x3_hasBunk a0 a2 g) fun r1 g2 => if r1 = 0 then
  x3_moveTo_j44 a0 a1 a2 a3 g2
  else
  gb (getR 3 g2 a0 16) fun x7 => gb (astI 0 g2 x7 (a2 + 2) a1) fun g9 => x3_moveTo_j44 a0 a1 a2 a3 g9
def x3_moveTo (p : Nat) (b0 : Int32) (b1 : Int32) (g : AH) : Option (Int32 × AH) :=
  gb (getR 3 g p 18) fun x1 => gb (aldR 4 g x1 b0) fun x3 => gb (getI 1 g x3 4) fun x5 => gb (isO 3 g p) fun _ => cb (x3_hasBunk p x5 g) fun r7 g8 => if r7 = 0 then
  x3_moveTo_j27 p b0 b1 x5 g8
  else
  gb (getR 3 g8 p 16) fun x13 => gb (astI 0 g8 x13 (x5 + 2) (-1)) fun g15 => x3_moveTo_j27 p b0 b1 x5 g15
def x3_changeRate (p : Nat) (b0 : Int32) (g : AH) : Option (Int32 × AH) :=
  gb (getI 3 g p 3) fun x1 => gb (putV 3 g p 3 (.int b0)) fun g3 => some (x1, g3)
def x3_addLogs (p : Nat) (b0 : Int32) (g : AH) : Option (Int32 × AH) :=
  gb (getI 3 g p 1) fun x1 => gb (putV 3 g p 1 (.int (x1 + b0))) fun g3 => gb (getI 3 g3 p 8) fun x5 => gb (putV 3 g3 p 8 (.int (x5 + b0))) fun g7 => gb (getI 3 g7 p 1) fun x9 => some (x9, g7)
def x3_payBack (p : Nat) (b0 : Int32) (b1 : Int32) (g : AH) : Option (Int32 × AH) :=
  gb (getR 3 g p 18) fun x1 => gb (aldR 4 g x1 b0) fun x3 => gb (getI 1 g x3 2) fun x5 => gb (putV 1 g x3 2 (.int (x5 - b1))) fun g7 => gb (getR 3 g7 p 18) fun x9 => gb (aldR 4 g7 x9 b0) fun x11 => gb (getI 1 g7 x11 3) fun x13 => gb (putV 1 g7 x11 3 (.int (x13 - b1))) fun g15 => gb (getI 3 g15 p 4) fun x17 => gb (putV 3 g15 p 4 (.int (x17 + b1))) fun g19 => gb (getR 3 g19 p 18) fun x21 => gb (aldR 4 g19 x21 b0) fun x23 => gb (getI 1 g19 x23 3) fun x25 => some (x25, g19)
def x3_burnLogs_j22 (a0 : Nat) (s0 : Int32) (g : AH) : Option (Unit × AH) :=
  gb (getI 3 g a0 1) fun x1 => gb (putV 3 g a0 1 (.int (x1 - s0))) fun g3 => gb (getI 3 g3 a0 5) fun x5 => gb (putV 3 g3 a0 5 (.int (x5 + s0))) fun g7 => gb (getI 3 g7 a0 6) fun x9 => gb (putV 3 g7 a0 6 (.int (x9 + s0))) fun g11 => gb (getI 3 g11 a0 2) fun x13 => gb (putV 3 g11 a0 2 (.int ((x13 / 2) + (4 * s0)))) fun g16 => some ((), g16)
def x3_burnLogs (p : Nat) (g : AH) : Option (Unit × AH) :=
  gb (getI 3 g p 3) fun x1 => gb (getI 3 g p 1) fun x3 => if x3 ≤ x1 then
  gb (getI 3 g p 1) fun x6 => x3_burnLogs_j22 p x6 g
  else
  gb (getI 3 g p 3) fun x8 => x3_burnLogs_j22 p x8 g
def x3_noteWhatHappens_l2 (a0 : Nat) (s0 : Int32) (g : AH) : Option (((Int32) ⊕ (Unit)) × AH) :=
  gb (getI 3 g a0 12) fun x1 => if x1 ≤ s0 then
  some (.inr (), g)
  else
  gb (getR 3 g a0 18) fun x4 => gb (aldR 4 g x4 s0) fun x6 => gb (getR 1 g x6 8) fun x8 => gb (isO 3 g a0) fun _ => cb (x3_activityNow a0 s0 g) fun r10 g11 => gb (aldI 0 g11 x8 r10) fun x15 => gb (astI 0 g11 x8 r10 (x15 + 1)) fun g17 => some (.inl (s0 + 1), g17)
def x3_noteWhatHappens (p : Nat) (g : AH) : Option (Unit × AH) :=
  cb (loopX (x3_noteWhatHappens_l2 p) 1000 0 g) fun t1 g2 =>
  some ((), g2)
def x1_payOut_j16 (a0 : Nat) (a1 : Int32) (s0 : Int32) (g : AH) : Option (Int32 × AH) :=
  gb (getI 1 g a0 2) fun x1 => gb (putV 1 g a0 2 (.int (x1 - s0))) fun g3 => gb (getI 1 g3 a0 3) fun x5 => gb (putV 1 g3 a0 3 (.int (x5 + (a1 - s0)))) fun g7 => some (s0, g7)
def x1_payOut (p : Nat) (b0 : Int32) (g : AH) : Option (Int32 × AH) :=
  gb (getI 1 g p 2) fun x1 => if x1 ≤ b0 then
  gb (getI 1 g p 2) fun x4 => x1_payOut_j16 p b0 x4 g
  else
  x1_payOut_j16 p b0 b0 g
def x3_payForNight_l2 (a0 : Nat) (s0 : Int32) (g : AH) : Option (((Int32) ⊕ (Unit)) × AH) :=
  gb (getI 3 g a0 12) fun x1 => if x1 ≤ s0 then
  some (.inr (), g)
  else
  gb (getI 3 g a0 4) fun x4 => gb (getR 3 g a0 18) fun x6 => gb (aldR 4 g x6 s0) fun x8 => gb (isO 1 g x8) fun _ => cb (x1_payOut x8 3 g) fun r10 g11 => gb (putV 3 g11 a0 4 (.int (x4 + r10))) fun g15 => some (.inl (s0 + 1), g15)
def x3_payForNight (p : Nat) (g : AH) : Option (Unit × AH) :=
  cb (loopX (x3_payForNight_l2 p) 1000 0 g) fun t1 g2 =>
  some ((), g2)
def x3_partOfLogs_j32 (a0 : Nat) (a2 : Int32) (s0 : Int32) (g : AH) : Option (Int32 × AH) :=
  gb (getI 3 g a0 12) fun x1 => if x1 = 0 then none else some (((a2 / x1) + s0), g)
def x3_partOfLogs (p : Nat) (b0 : Int32) (g : AH) : Option (Int32 × AH) :=
  gb (getI 3 g p 12) fun x1 => if 1 ≤ x1 then
  gb (getI 3 g p 6) fun x4 => gb (getI 3 g p 12) fun x6 => if x6 = 0 then none else if ((2 * x4) - (2 * x4) / x6 * x6) ≤ b0 then
  x3_partOfLogs_j32 p (2 * x4) 0 g
  else
  x3_partOfLogs_j32 p (2 * x4) 1 g
  else
  some (0, g)
def x3_payForLogs_l2 (a0 : Nat) (s0 : Int32) (g : AH) : Option (((Int32) ⊕ (Unit)) × AH) :=
  gb (getI 3 g a0 12) fun x1 => if x1 ≤ s0 then
  some (.inr (), g)
  else
  gb (getI 3 g a0 4) fun x4 => gb (getR 3 g a0 18) fun x6 => gb (aldR 4 g x6 s0) fun x8 => gb (isO 3 g a0) fun _ => cb (x3_partOfLogs a0 s0 g) fun r10 g11 => gb (isO 1 g11 x8) fun _ => cb (x1_payOut x8 r10 g11) fun r15 g16 => gb (putV 3 g16 a0 4 (.int (x4 + r15))) fun g20 => some (.inl (s0 + 1), g20)
def x3_payForLogs (p : Nat) (g : AH) : Option (Unit × AH) :=
  cb (loopX (x3_payForLogs_l2 p) 1000 0 g) fun t1 g2 =>
  gb (putV 3 g2 p 6 (.int 0)) fun g4 => some ((), g4)
def x1_feeForBlanket (p : Nat) (g : AH) : Option (Int32 × AH) :=
  gb (getI 1 g p 6) fun x1 => some (((x1 + 2) / 3), g)
def x3_hikersWithoutBlanket_j28_4 (a0 : Nat) (a1 : Int32) (a2 : Int32) (g : AH) : Option (((Int32 × Int32) ⊕ (Int32)) × AH) :=
  some (.inl (a1, (a2 + 1)), g)
def x3_hikersWithoutBlanket_l4 (a0 : Nat) (s0 : Int32 × Int32) (g : AH) : Option (((Int32 × Int32) ⊕ (Int32)) × AH) :=
  gb (getI 3 g a0 12) fun x1 => if x1 ≤ s0.2 then
  some (.inr s0.1, g)
  else
  gb (getR 3 g a0 18) fun x4 => gb (aldR 4 g x4 s0.2) fun x6 => gb (getI 1 g x6 5) fun x8 => if x8 = (-1) then
  x3_hikersWithoutBlanket_j28_4 a0 (s0.1 + 1) s0.2 g
  else
  x3_hikersWithoutBlanket_j28_4 a0 s0.1 s0.2 g
def x3_hikersWithoutBlanket (p : Nat) (g : AH) : Option (Int32 × AH) :=
  cb (loopX (x3_hikersWithoutBlanket_l4 p) 1000 (0, 0) g) fun t1 g2 =>
  some (t1, g2)
def x3_payForBlankets_l4 (a0 : Nat) (s0 : Int32 × Int32) (g : AH) : Option (((Int32 × Int32) ⊕ (Int32)) × AH) :=
  gb (getI 3 g a0 12) fun x1 => if x1 ≤ s0.2 then
  some (.inr s0.1, g)
  else
  gb (getR 3 g a0 18) fun x4 => gb (aldR 4 g x4 s0.2) fun x6 => gb (getR 3 g a0 18) fun x8 => gb (aldR 4 g x8 s0.2) fun x10 => gb (isO 1 g x10) fun _ => cb (x1_feeForBlanket x10 g) fun r12 g13 => gb (isO 1 g13 x6) fun _ => cb (x1_payOut x6 r12 g13) fun r17 g18 => some (.inl ((s0.1 + r17), (s0.2 + 1)), g18)
def x3_payForBlankets_j99_60 (a0 : Nat) (a1 : Int32) (a2 : Int32) (a3 : Int32) (a4 : Int32) (g : AH) : Option (((Int32) ⊕ (Unit)) × AH) :=
  some (.inl (a4 + 1), g)
def x3_payForBlankets_l60 (a0 : Nat) (a1 : Int32) (a2 : Int32) (a3 : Int32) (s0 : Int32) (g : AH) : Option (((Int32) ⊕ (Unit)) × AH) :=
  gb (getI 3 g a0 12) fun x1 => if x1 ≤ s0 then
  some (.inr (), g)
  else
  gb (getR 3 g a0 18) fun x4 => gb (aldR 4 g x4 s0) fun x6 => gb (getI 1 g x6 5) fun x8 => if x8 = (-1) then
  gb (getR 3 g a0 18) fun x11 => gb (aldR 4 g x11 s0) fun x13 => gb (getI 1 g x13 2) fun x15 => gb (putV 1 g x13 2 (.int (x15 + a3))) fun g17 => x3_payForBlankets_j99_60 a0 a1 a2 a3 s0 g17
  else
  x3_payForBlankets_j99_60 a0 a1 a2 a3 s0 g
def x3_payForBlankets_j56 (a0 : Nat) (a1 : Int32) (a2 : Int32) (s0 : Int32) (g : AH) : Option (Unit × AH) :=
  cb (loopX (x3_payForBlankets_l60 a0 a1 a2 s0) 1000 0 g) fun t1 g2 =>
  gb (getI 3 g2 a0 4) fun x4 => gb (putV 3 g2 a0 4 (.int (x4 + (a1 - (s0 * a2))))) fun g6 => some ((), g6)
def x3_payForBlankets (p : Nat) (g : AH) : Option (Unit × AH) :=
  cb (loopX (x3_payForBlankets_l4 p) 1000 (0, 0) g) fun t1 g2 =>
  gb (isO 3 g2 p) fun _ => cb (x3_hikersWithoutBlanket p g2) fun r4 g5 => if 1 ≤ r4 then
  if r4 = 0 then none else x3_payForBlankets_j56 p t1 r4 (t1 / r4) g5
  else
  x3_payForBlankets_j56 p t1 r4 0 g5
def x3_endHour (p : Nat) (g : AH) : Option (Unit × AH) :=
  gb (getI 3 g p 0) fun x1 => gb (putV 3 g p 0 (.int (x1 + 1))) fun g3 => gb (getI 3 g3 p 0) fun x5 => if (x5 - x5 / 8 * 8) = 0 then
  gb (isO 3 g3 p) fun _ => cb (x3_payForNight p g3) fun r9 g10 => gb (isO 3 g10 p) fun _ => cb (x3_payForLogs p g10) fun r14 g15 => gb (isO 3 g15 p) fun _ => cb (x3_payForBlankets p g15) fun r19 g20 => some ((), g20)
  else
  some ((), g3)
def x3_passTime_l7 (a0 : Nat) (a1 : Int32) (a2 : Int32) (s0 : Int32) (g : AH) : Option (((Int32) ⊕ (Unit)) × AH) :=
  if a1 ≤ s0 then
  some (.inr (), g)
  else
  gb (isO 3 g a0) fun _ => cb (x3_burnLogs a0 g) fun r2 g3 => gb (isO 3 g3 a0) fun _ => cb (x3_measure a0 g3) fun r7 g8 => gb (isO 3 g8 a0) fun _ => cb (x3_noteWhatHappens a0 g8) fun r12 g13 => gb (isO 3 g13 a0) fun _ => cb (x3_endHour a0 g13) fun r17 g18 => some (.inl (s0 + 1), g18)
def x3_passTime (p : Nat) (b0 : Int32) (g : AH) : Option (Int32 × AH) :=
  gb (getI 3 g p 4) fun x1 => cb (loopX (x3_passTime_l7 p b0 x1) 1000 0 g) fun t3 g4 =>
  gb (isO 3 g4 p) fun _ => cb (x3_measure p g4) fun r6 g7 => gb (getI 3 g7 p 4) fun x11 => some ((x11 - x1), g7)
def x3_perform (p : Nat) (b0 : Int32) (b1 : Int32) (b2 : Int32) (g : AH) : Option (Int32 × AH) :=
  if b0 = 0 then
  gb (isO 3 g p) fun _ => cb (x3_giveBlanket p b1 b2 g) fun r2 g3 => gb (getR 3 g3 p 18) fun x7 => gb (aldR 4 g3 x7 b1) fun x9 => gb (getI 1 g3 x9 7) fun x11 => some (x11, g3)
  else if b0 = 1 then
  gb (isO 3 g p) fun _ => cb (x3_giveBlanket p b1 (-1) g) fun r14 g15 => some (r14, g15)
  else if b0 = 2 then
  gb (isO 3 g p) fun _ => cb (x3_exchangeBlankets p b1 b2 g) fun r20 g21 => gb (isO 3 g21 p) fun _ => cb (x3_coldCount p g21) fun r25 g26 => some (r25, g26)
  else if b0 = 3 then
  gb (isO 3 g p) fun _ => cb (x3_moveTo p b1 b2 g) fun r31 g32 => gb (isO 3 g32 p) fun _ => cb (x3_noiseAt p b2 g32) fun r36 g37 => some (r36, g37)
  else if b0 = 4 then
  gb (isO 3 g p) fun _ => cb (x3_moveTo p b1 (-1) g) fun r42 g43 => some (r42, g43)
  else if b0 = 5 then
  gb (isO 3 g p) fun _ => cb (x3_changeRate p b1 g) fun r48 g49 => some (r48, g49)
  else if b0 = 6 then
  gb (isO 3 g p) fun _ => cb (x3_addLogs p b1 g) fun r54 g55 => some (r54, g55)
  else if b0 = 7 then
  gb (isO 3 g p) fun _ => cb (x3_payBack p b1 b2 g) fun r60 g61 => some (r60, g61)
  else gb (isO 3 g p) fun _ => cb (x3_passTime p b1 g) fun r65 g66 => some (r65, g66)
def x8_runScript_l31 (a0 : Nat) (s0 : Int32) (g : AH) : Option (((Int32) ⊕ ((Unit) ⊕ Int32)) × AH) :=
  gb (getR 8 g a0 7) fun x1 => gb (getI 6 g x1 3) fun x3 => if x3 ≤ s0 then
  some (.inr (.inl ()), g)
  else
  gb (getR 8 g a0 7) fun x6 => gb (getR 6 g x6 0) fun x8 => gb (aldI 0 g x8 s0) fun x10 => gb (getR 8 g a0 7) fun x12 => gb (getR 6 g x12 1) fun x14 => gb (aldI 0 g x14 s0) fun x16 => gb (getR 8 g a0 7) fun x18 => gb (getR 6 g x18 2) fun x20 => gb (aldI 0 g x20 s0) fun x22 => gb (getR 8 g a0 0) fun x24 => gb (isO 3 g x24) fun _ => cb (x3_faultOf x24 x10 x16 x22 g) fun r26 g27 => if r26 = 0 then
  gb (getR 8 g27 a0 3) fun x32 => gb (getR 8 g27 a0 0) fun x34 => gb (isO 2 g27 x32) fun _ => cb (x2_keep x32 x34 g27) fun r36 g37 => gb (getR 8 g37 a0 0) fun x41 => gb (isO 3 g37 x41) fun _ => cb (x3_perform x41 x10 x16 x22 g37) fun r43 g44 => some (.inl (s0 + 1), g44)
  else
  some (.inr (.inr s0), g27)
def x8_runScript (p : Nat) (g : AH) : Option (Int32 × AH) :=
  gb (getR 8 g p 6) fun x1 => gb (getR 8 g p 7) fun x3 => gb (isO 0 g x1) fun _ => cb (x0_readScript x1 x3 g) fun r5 g6 => gb (getR 8 g6 p 6) fun x10 => gb (getR 0 g6 x10 0) fun x12 => gb (putV 7 g6 x12 1 (.int 0)) fun g14 => if r5 = 0 then
  some ((-1), g14)
  else
  cb (loopX (x8_runScript_l31 p) 1000 0 g14) fun t17 g18 => Sum.elim (fun t20 =>
  gb (getR 8 g18 p 7) fun x22 => gb (getI 6 g18 x22 3) fun x24 => some (x24, g18)) (fun t21 => some (t21, g18)) t17
def x8_errorCode (p : Nat) (g : AH) : Option (Int32 × AH) :=
  gb (getR 8 g p 6) fun x1 => gb (getI 0 g x1 1) fun x3 => some (x3, g)
def x8_errorPosition (p : Nat) (g : AH) : Option (Int32 × AH) :=
  gb (getR 8 g p 6) fun x1 => gb (getI 0 g x1 2) fun x3 => some (x3, g)
def x8_hour (p : Nat) (g : AH) : Option (Int32 × AH) :=
  gb (getR 8 g p 0) fun x1 => gb (getI 3 g x1 0) fun x3 => some (x3, g)
def x3_hoursToDawn (p : Nat) (g : AH) : Option (Int32 × AH) :=
  gb (getI 3 g p 0) fun x1 => some ((8 - (x1 - x1 / 8 * 8)), g)
def x8_hoursUntilDawn (p : Nat) (g : AH) : Option (Int32 × AH) :=
  gb (getR 8 g p 0) fun x1 => gb (isO 3 g x1) fun _ => cb (x3_hoursToDawn x1 g) fun r3 g4 => some (r3, g4)
def x8_logs (p : Nat) (g : AH) : Option (Int32 × AH) :=
  gb (getR 8 g p 0) fun x1 => gb (getI 3 g x1 1) fun x3 => some (x3, g)
def x8_temperature (p : Nat) (g : AH) : Option (Int32 × AH) :=
  gb (getR 8 g p 0) fun x1 => gb (isO 3 g x1) fun _ => cb (x3_temperatureInside x1 g) fun r3 g4 => some (r3, g4)
def x8_demandBunk (p : Nat) (b0 : Int32) (g : AH) : Option ((Unit ⊕ String) × AH) :=
  gb (getR 8 g p 0) fun x1 => gb (isO 3 g x1) fun _ => cb (x3_hasBunk x1 b0 g) fun r3 g4 => if r3 = 0 then
  some (.inr "java/lang/IndexOutOfBoundsException", hcut g4)
  else
  some (.inl (), g4)
def x8_hikerIn (p : Nat) (b0 : Int32) (g : AH) : Option ((Int32 ⊕ String) × AH) :=
  gb (isO 8 g p) fun _ => cb (x8_demandBunk p b0 g) fun r1 g2 => Sum.elim (fun v6 =>
  gb (getR 8 g2 p 0) fun x8 => gb (isO 3 g2 x8) fun _ => cb (x3_sleeperIn x8 b0 g2) fun r10 g11 => some (.inl r10, g11)) (fun w7 => some (.inr w7, g2)) r1
def x8_noiseIn (p : Nat) (b0 : Int32) (g : AH) : Option ((Int32 ⊕ String) × AH) :=
  gb (isO 8 g p) fun _ => cb (x8_demandBunk p b0 g) fun r1 g2 => Sum.elim (fun v6 =>
  gb (getR 8 g2 p 0) fun x8 => gb (isO 3 g2 x8) fun _ => cb (x3_noiseAt x8 b0 g2) fun r10 g11 => some (.inl r10, g11)) (fun w7 => some (.inr w7, g2)) r1
def x3_isQuieter_j40  (g : AH) : Option (Int32 × AH) :=
  some (1, g)
def x3_isQuieter (p : Nat) (b0 : Int32) (b1 : Int32) (g : AH) : Option (Int32 × AH) :=
  gb (isO 3 g p) fun _ => cb (x3_noiseAt p b0 g) fun r1 g2 => gb (isO 3 g2 p) fun _ => cb (x3_noiseAt p b1 g2) fun r6 g7 => if r1 < r6 then
  x3_isQuieter_j40  g7
  else
  if r1 = r6 then
  gb (getR 3 g7 p 13) fun x13 => gb (aldI 0 g7 x13 b0) fun x15 => gb (getR 3 g7 p 13) fun x17 => gb (aldI 0 g7 x17 b1) fun x19 => if x15 ≤ x19 then
  some (0, g7)
  else
  x3_isQuieter_j40  g7
  else
  some (0, g7)
def x3_quietestEmptyBunk_j37_4 (a0 : Nat) (a1 : Int32) (a2 : Int32) (g : AH) : Option (((Int32 × Int32) ⊕ (Int32)) × AH) :=
  some (.inl (a1, (a2 + 1)), g)
def x3_quietestEmptyBunk_j35_4 (a0 : Nat) (a2 : Int32) (g : AH) : Option (((Int32 × Int32) ⊕ (Int32)) × AH) :=
  x3_quietestEmptyBunk_j37_4 a0 a2 a2 g
def x3_quietestEmptyBunk_l4 (a0 : Nat) (s0 : Int32 × Int32) (g : AH) : Option (((Int32 × Int32) ⊕ (Int32)) × AH) :=
  gb (getI 3 g a0 9) fun x1 => if x1 ≤ s0.2 then
  some (.inr s0.1, g)
  else
  gb (isO 3 g a0) fun _ => cb (x3_sleeperIn a0 s0.2 g) fun r4 g5 => if r4 = (-1) then
  if s0.1 = (-1) then
  x3_quietestEmptyBunk_j35_4 a0 s0.2 g5
  else
  gb (isO 3 g5 a0) fun _ => cb (x3_isQuieter a0 s0.2 s0.1 g5) fun r11 g12 => if r11 = 0 then
  x3_quietestEmptyBunk_j37_4 a0 s0.1 s0.2 g12
  else
  x3_quietestEmptyBunk_j35_4 a0 s0.2 g12
  else
  x3_quietestEmptyBunk_j37_4 a0 s0.1 s0.2 g5
def x3_quietestEmptyBunk (p : Nat) (g : AH) : Option (Int32 × AH) :=
  cb (loopX (x3_quietestEmptyBunk_l4 p) 1000 ((-1), 0) g) fun t1 g2 =>
  some (t1, g2)
def x8_quietestBunk (p : Nat) (g : AH) : Option (Int32 × AH) :=
  gb (getR 8 g p 0) fun x1 => gb (isO 3 g x1) fun _ => cb (x3_quietestEmptyBunk x1 g) fun r3 g4 => some (r3, g4)
def x3_longestRowOfSleepers_j30_6 (a0 : Nat) (a1 : Int32) (a3 : Int32) (s0 : Int32) (g : AH) : Option (((Int32 × Int32 × Int32) ⊕ (Int32)) × AH) :=
  some (.inl ((if a1 < s0 then s0 else a1), s0, (a3 + 1)), g)
def x3_longestRowOfSleepers_l6 (a0 : Nat) (s0 : Int32 × Int32 × Int32) (g : AH) : Option (((Int32 × Int32 × Int32) ⊕ (Int32)) × AH) :=
  gb (getI 3 g a0 9) fun x1 => if x1 ≤ s0.2.2 then
  some (.inr s0.1, g)
  else
  gb (isO 3 g a0) fun _ => cb (x3_sleeperIn a0 s0.2.2 g) fun r4 g5 => if r4 = (-1) then
  x3_longestRowOfSleepers_j30_6 a0 s0.1 s0.2.2 0 g5
  else
  x3_longestRowOfSleepers_j30_6 a0 s0.1 s0.2.2 (s0.2.1 + 1) g5
def x3_longestRowOfSleepers (p : Nat) (g : AH) : Option (Int32 × AH) :=
  cb (loopX (x3_longestRowOfSleepers_l6 p) 1000 (0, 0, 0) g) fun t1 g2 =>
  some (t1, g2)
def x8_longestRow (p : Nat) (g : AH) : Option (Int32 × AH) :=
  gb (getR 8 g p 0) fun x1 => gb (isO 3 g x1) fun _ => cb (x3_longestRowOfSleepers x1 g) fun r3 g4 => some (r3, g4)
def x8_demandHiker (p : Nat) (b0 : Int32) (g : AH) : Option ((Unit ⊕ String) × AH) :=
  gb (getR 8 g p 0) fun x1 => gb (isO 3 g x1) fun _ => cb (x3_hasHiker x1 b0 g) fun r3 g4 => if r3 = 0 then
  some (.inr "java/lang/IndexOutOfBoundsException", hcut g4)
  else
  some (.inl (), g4)
def x5_isFreeFor_j16  (g : AH) : Option (Int32 × AH) :=
  some (1, g)
def x5_isFreeFor (b0 : Nat) (b1 : Int32) (b2 : Int32) (g : AH) : Option (Int32 × AH) :=
  gb (isO 3 g b0) fun _ => cb (x3_sleeperIn b0 b2 g) fun r1 g2 => if r1 = (-1) then
  x5_isFreeFor_j16  g2
  else
  if r1 = b1 then
  x5_isFreeFor_j16  g2
  else
  some (0, g2)
def x5_placeForMostSleep_j87_33 (a0 : Nat) (a1 : Nat) (a2 : Int32) (a3 : Int32) (a4 : Int32) (a5 : Int32) (g : AH) : Option (((Int32 × Int32 × Int32) ⊕ (Int32)) × AH) :=
  some (.inl (a3, a4, (a5 + 1)), g)
def x5_placeForMostSleep_l33 (a0 : Nat) (a1 : Nat) (a2 : Int32) (s0 : Int32 × Int32 × Int32) (g : AH) : Option (((Int32 × Int32 × Int32) ⊕ (Int32)) × AH) :=
  gb (getI 3 g a1 9) fun x1 => if x1 ≤ s0.2.2 then
  some (.inr s0.1, g)
  else
  cb (x5_isFreeFor a1 a2 s0.2.2 g) fun r4 g5 => if r4 = 0 then
  x5_placeForMostSleep_j87_33 a0 a1 a2 s0.1 s0.2.1 s0.2.2 g5
  else
  gb (getR 5 g5 a0 0) fun x8 => gb (isO 3 g5 x8) fun _ => cb (x3_moveTo x8 a2 s0.2.2 g5) fun r10 g11 => gb (getR 5 g11 a0 0) fun x15 => gb (isO 3 g11 x15) fun _ => cb (x3_countOf x15 2 g11) fun r17 g18 => if r17 ≤ s0.2.1 then
  x5_placeForMostSleep_j87_33 a0 a1 a2 s0.1 s0.2.1 s0.2.2 g18
  else
  x5_placeForMostSleep_j87_33 a0 a1 a2 s0.2.2 r17 s0.2.2 g18
def x5_placeForMostSleep (p : Nat) (b0 : Nat) (b1 : Int32) (g : AH) : Option (Int32 × AH) :=
  gb (getR 5 g p 0) fun x1 => gb (isO 3 g x1) fun _ => cb (x3_copyFrom x1 b0 g) fun r3 g4 => gb (getR 5 g4 p 0) fun x8 => gb (isO 3 g4 x8) fun _ => cb (x3_moveTo x8 b1 (-1) g4) fun r10 g11 => gb (getR 5 g11 p 0) fun x15 => gb (isO 3 g11 x15) fun _ => cb (x3_countOf x15 2 g11) fun r17 g18 => cb (loopX (x5_placeForMostSleep_l33 p b0 b1) 1000 ((-1), r17, 0) g18) fun t22 g23 =>
  some (t22, g23)
set_option maxHeartbeats 4000000 in
set_option maxRecDepth 100000 in
theorem t_x0_readHikerAnd_b {l : Launch} {G : GG} {M : MC} (X : CX M G cX0_readHikerAnd 5 RX0 ⟨5, 0, 0, 218⟩) (hl0 : M.2.1 = l) (hr : (mM M).sig.returnType = (some .boolean)) (hnm : (mM M).name = yX0_readHikerAnd.name) {p : Nat} {b0 : Nat} {b1 : Int32} {b2 : Int32} {b3 : Int32} {g : AH} {r : Int32} {g1 : AH} (E : x0_readHikerAnd p b0 b1 b2 b3 g = some (r, g1)) : WW M G 5 (RQ M G (some (.int r)) g1 0 0) 0 0 g 0 [(0, .ref p), (1, .ref b0), (2, .int b1), (3, .int b2), (4, .int b3)] [] := by
  unfold x0_readHikerAnd at E
  refine r_aload_n X 0 dX0_readHikerAnd_0 rfl rfl ?_
  refine r_aload_n X 1 dX0_readHikerAnd_1 rfl rfl ?_
  obtain ⟨x1, e2, E⟩ := gb_some E
  refine r_getR X dX0_readHikerAnd_2 f_X0_183 e2 ?_
  refine r_iload_n X 2 dX0_readHikerAnd_5 rfl rfl ?_
  refine r_iconst X (v := 0) dX0_readHikerAnd_6 (by decide) ?_
  refine r_bipush X (v := 9) dX0_readHikerAnd_7 (by decide) ?_
  obtain ⟨u6, e7, E⟩ := gb_some E
  obtain ⟨r3, g4, e5, E⟩ := cb_some E
  refine r_callV0 X hl0 (ci := 0) dX0_readHikerAnd_9 y_X0_readInto m_X0_186 rfl rfl e7 (t_x0_readInto (l := l) (G := G) e5) rfl rfl (Nat.le_of_ble_eq_true rfl) (by decide) ?_
  refine r_if_eq X 34 dX0_readHikerAnd_12 (by decide) (fun c8 => ?_) (fun c8 => ?_)
  · rw [if_pos c8] at E
    refine r_iconst X (v := 0) dX0_readHikerAnd_34 (by decide) ?_
    cases E
    exact r_zret X hr (Or.inl rfl) dX0_readHikerAnd_35 (by decide) (by decide)
  · rw [if_neg c8] at E
    refine r_aload_n X 0 dX0_readHikerAnd_15 rfl rfl ?_
    refine r_aload_n X 1 dX0_readHikerAnd_16 rfl rfl ?_
    obtain ⟨x9, e10, E⟩ := gb_some E
    refine r_getR X dX0_readHikerAnd_17 f_X0_190 e10 ?_
    refine r_iload_n X 2 dX0_readHikerAnd_20 rfl rfl ?_
    refine r_iload_n X 3 dX0_readHikerAnd_21 rfl rfl ?_
    refine r_iload X dX0_readHikerAnd_22 rfl ?_
    obtain ⟨u14, e15, E⟩ := gb_some E
    obtain ⟨r11, g12, e13, E⟩ := cb_some E
    refine r_callV0 X hl0 (ci := 0) dX0_readHikerAnd_24 y_X0_readInto m_X0_186 rfl rfl e15 (t_x0_readInto (l := l) (G := G) e13) rfl rfl (Nat.le_of_ble_eq_true rfl) (by decide) ?_
    refine r_if_eq X 34 dX0_readHikerAnd_27 (by decide) (fun c16 => ?_) (fun c16 => ?_)
    · rw [if_pos c16] at E
      refine r_iconst X (v := 0) dX0_readHikerAnd_34 (by decide) ?_
      cases E
      exact r_zret X hr (Or.inl rfl) dX0_readHikerAnd_35 (by decide) (by decide)
    · rw [if_neg c16] at E
      refine r_iconst X (v := 1) dX0_readHikerAnd_30 (by decide) ?_
      refine r_goto X 35 dX0_readHikerAnd_31 (by decide) ?_
      cases E
      exact r_zret X hr (Or.inr rfl) dX0_readHikerAnd_35 (by decide) (by decide)
theorem t_x0_readHikerAnd {l : Launch} {G : GG} {p : Nat} {b0 : Nat} {b1 : Int32} {b2 : Int32} {b3 : Int32} {g : AH} {r : Int32} {g1 : AH} (E : x0_readHikerAnd p b0 b1 b2 b3 g = some (r, g1)) : Ct l G yX0_readHikerAnd cX0_readHikerAnd 5 (some .boolean) ⟨5, 0, 0, 218⟩ [.ref p, .ref b0, .int b1, .int b2, .int b3] g (some (.int r)) g1 :=
  ct_of (L0 := [(0, .ref p), (1, .ref b0), (2, .int b1), (3, .int b2), (4, .int b3)]) y_X0_readHikerAnd rfl (Nat.le_of_ble_eq_true rfl) fun M hl0 X hr hnm => t_x0_readHikerAnd_b X hl0 hr hnm E
set_option maxHeartbeats 4000000 in
set_option maxRecDepth 100000 in
theorem t_x0_readArguments_b {l : Launch} {G : GG} {M : MC} (X : CX M G cX0_readArguments 3 RX0 ⟨6, 0, 0, 242⟩) (hl0 : M.2.1 = l) (hr : (mM M).sig.returnType = (some .boolean)) (hnm : (mM M).name = yX0_readArguments.name) {p : Nat} {b0 : Nat} {b1 : Int32} {g : AH} {r : Int32} {g1 : AH} (E : x0_readArguments p b0 b1 g = some (r, g1)) : WW M G 3 (RQ M G (some (.int r)) g1 0 0) 0 0 g 0 [(0, .ref p), (1, .ref b0), (2, .int b1)] [] := by
  unfold x0_readArguments at E
  refine r_aload_n X 1 dX0_readArguments_0 rfl rfl ?_
  obtain ⟨x1, e2, E⟩ := gb_some E
  refine r_getR X dX0_readArguments_1 f_X0_154 e2 ?_
  refine r_iload_n X 2 dX0_readArguments_4 rfl rfl ?_
  obtain ⟨x3, e4, E⟩ := gb_some E
  refine r_iald X dX0_readArguments_5 e4 ?_
  by_cases c5 : x3 = 0
  · rw [if_pos c5] at E
    refine r_tswI X 0 56 dX0_readArguments_6 c5 (by decide) (by decide) rfl (by decide) ?_
    refine r_aload_n X 0 dX0_readArguments_56 rfl rfl ?_
    refine r_aload_n X 1 dX0_readArguments_57 rfl rfl ?_
    refine r_iload_n X 2 dX0_readArguments_58 rfl rfl ?_
    refine r_iconst X (v := 0) dX0_readArguments_59 (by decide) ?_
    refine r_bipush X (v := 11) dX0_readArguments_60 (by decide) ?_
    obtain ⟨u9, e10, E⟩ := gb_some E
    obtain ⟨r6, g7, e8, E⟩ := cb_some E
    refine r_callV0 X hl0 (ci := 0) dX0_readArguments_62 y_X0_readHikerAnd m_X0_179 rfl rfl e10 (t_x0_readHikerAnd (l := l) (G := G) e8) rfl rfl (Nat.le_of_ble_eq_true rfl) (by decide) ?_
    by_cases c11 : bz r6
    · rw [if_pos c11] at E
      cases E
      exact r_zret X hr c11 dX0_readArguments_65 (by decide) (by decide)
    · rw [if_neg c11] at E; cases E
  rw [if_neg c5] at E
  by_cases c12 : x3 = 1
  · rw [if_pos c12] at E
    refine r_tswI X 1 134 dX0_readArguments_6 c12 (by decide) (by decide) rfl (by decide) ?_
    refine r_aload_n X 0 dX0_readArguments_134 rfl rfl ?_
    refine r_aload_n X 1 dX0_readArguments_135 rfl rfl ?_
    obtain ⟨x13, e14, E⟩ := gb_some E
    refine r_getR X dX0_readArguments_136 f_X0_183 e14 ?_
    refine r_iload_n X 2 dX0_readArguments_139 rfl rfl ?_
    refine r_iconst X (v := 0) dX0_readArguments_140 (by decide) ?_
    refine r_bipush X (v := 9) dX0_readArguments_141 (by decide) ?_
    obtain ⟨u18, e19, E⟩ := gb_some E
    obtain ⟨r15, g16, e17, E⟩ := cb_some E
    refine r_callV0 X hl0 (ci := 0) dX0_readArguments_143 y_X0_readInto m_X0_186 rfl rfl e19 (t_x0_readInto (l := l) (G := G) e17) rfl rfl (Nat.le_of_ble_eq_true rfl) (by decide) ?_
    by_cases c20 : bz r15
    · rw [if_pos c20] at E
      cases E
      exact r_zret X hr c20 dX0_readArguments_146 (by decide) (by decide)
    · rw [if_neg c20] at E; cases E
  rw [if_neg c12] at E
  by_cases c21 : x3 = 2
  · rw [if_pos c21] at E
    refine r_tswI X 2 66 dX0_readArguments_6 c21 (by decide) (by decide) rfl (by decide) ?_
    refine r_aload_n X 0 dX0_readArguments_66 rfl rfl ?_
    refine r_aload_n X 1 dX0_readArguments_67 rfl rfl ?_
    refine r_iload_n X 2 dX0_readArguments_68 rfl rfl ?_
    refine r_iconst X (v := 0) dX0_readArguments_69 (by decide) ?_
    refine r_bipush X (v := 9) dX0_readArguments_70 (by decide) ?_
    obtain ⟨u25, e26, E⟩ := gb_some E
    obtain ⟨r22, g23, e24, E⟩ := cb_some E
    refine r_callV0 X hl0 (ci := 0) dX0_readArguments_72 y_X0_readHikerAnd m_X0_179 rfl rfl e26 (t_x0_readHikerAnd (l := l) (G := G) e24) rfl rfl (Nat.le_of_ble_eq_true rfl) (by decide) ?_
    by_cases c27 : bz r22
    · rw [if_pos c27] at E
      cases E
      exact r_zret X hr c27 dX0_readArguments_75 (by decide) (by decide)
    · rw [if_neg c27] at E; cases E
  rw [if_neg c21] at E
  by_cases c28 : x3 = 3
  · rw [if_pos c28] at E
    refine r_tswI X 3 76 dX0_readArguments_6 c28 (by decide) (by decide) rfl (by decide) ?_
    refine r_aload_n X 0 dX0_readArguments_76 rfl rfl ?_
    refine r_aload_n X 1 dX0_readArguments_77 rfl rfl ?_
    refine r_iload_n X 2 dX0_readArguments_78 rfl rfl ?_
    refine r_iconst X (v := 0) dX0_readArguments_79 (by decide) ?_
    refine r_bipush X (v := 11) dX0_readArguments_80 (by decide) ?_
    obtain ⟨u32, e33, E⟩ := gb_some E
    obtain ⟨r29, g30, e31, E⟩ := cb_some E
    refine r_callV0 X hl0 (ci := 0) dX0_readArguments_82 y_X0_readHikerAnd m_X0_179 rfl rfl e33 (t_x0_readHikerAnd (l := l) (G := G) e31) rfl rfl (Nat.le_of_ble_eq_true rfl) (by decide) ?_
    by_cases c34 : bz r29
    · rw [if_pos c34] at E
      cases E
      exact r_zret X hr c34 dX0_readArguments_85 (by decide) (by decide)
    · rw [if_neg c34] at E; cases E
  rw [if_neg c28] at E
  by_cases c35 : x3 = 4
  · rw [if_pos c35] at E
    refine r_tswI X 4 134 dX0_readArguments_6 c35 (by decide) (by decide) rfl (by decide) ?_
    refine r_aload_n X 0 dX0_readArguments_134 rfl rfl ?_
    refine r_aload_n X 1 dX0_readArguments_135 rfl rfl ?_
    obtain ⟨x36, e37, E⟩ := gb_some E
    refine r_getR X dX0_readArguments_136 f_X0_183 e37 ?_
    refine r_iload_n X 2 dX0_readArguments_139 rfl rfl ?_
    refine r_iconst X (v := 0) dX0_readArguments_140 (by decide) ?_
    refine r_bipush X (v := 9) dX0_readArguments_141 (by decide) ?_
    obtain ⟨u41, e42, E⟩ := gb_some E
    obtain ⟨r38, g39, e40, E⟩ := cb_some E
    refine r_callV0 X hl0 (ci := 0) dX0_readArguments_143 y_X0_readInto m_X0_186 rfl rfl e42 (t_x0_readInto (l := l) (G := G) e40) rfl rfl (Nat.le_of_ble_eq_true rfl) (by decide) ?_
    by_cases c43 : bz r38
    · rw [if_pos c43] at E
      cases E
      exact r_zret X hr c43 dX0_readArguments_146 (by decide) (by decide)
    · rw [if_neg c43] at E; cases E
  rw [if_neg c35] at E
  by_cases c44 : x3 = 5
  · rw [if_pos c44] at E
    refine r_tswI X 5 96 dX0_readArguments_6 c44 (by decide) (by decide) rfl (by decide) ?_
    refine r_aload_n X 0 dX0_readArguments_96 rfl rfl ?_
    refine r_aload_n X 1 dX0_readArguments_97 rfl rfl ?_
    obtain ⟨x45, e46, E⟩ := gb_some E
    refine r_getR X dX0_readArguments_98 f_X0_183 e46 ?_
    refine r_iload_n X 2 dX0_readArguments_101 rfl rfl ?_
    refine r_iconst X (v := 0) dX0_readArguments_102 (by decide) ?_
    refine r_iconst X (v := 3) dX0_readArguments_103 (by decide) ?_
    obtain ⟨u50, e51, E⟩ := gb_some E
    obtain ⟨r47, g48, e49, E⟩ := cb_some E
    refine r_callV0 X hl0 (ci := 0) dX0_readArguments_104 y_X0_readInto m_X0_186 rfl rfl e51 (t_x0_readInto (l := l) (G := G) e49) rfl rfl (Nat.le_of_ble_eq_true rfl) (by decide) ?_
    by_cases c52 : bz r47
    · rw [if_pos c52] at E
      cases E
      exact r_zret X hr c52 dX0_readArguments_107 (by decide) (by decide)
    · rw [if_neg c52] at E; cases E
  rw [if_neg c44] at E
  by_cases c53 : x3 = 6
  · rw [if_pos c53] at E
    refine r_tswI X 6 108 dX0_readArguments_6 c53 (by decide) (by decide) rfl (by decide) ?_
    refine r_aload_n X 0 dX0_readArguments_108 rfl rfl ?_
    refine r_aload_n X 1 dX0_readArguments_109 rfl rfl ?_
    obtain ⟨x54, e55, E⟩ := gb_some E
    refine r_getR X dX0_readArguments_110 f_X0_183 e55 ?_
    refine r_iload_n X 2 dX0_readArguments_113 rfl rfl ?_
    refine r_iconst X (v := 1) dX0_readArguments_114 (by decide) ?_
    refine r_bipush X (v := 50) dX0_readArguments_115 (by decide) ?_
    obtain ⟨u59, e60, E⟩ := gb_some E
    obtain ⟨r56, g57, e58, E⟩ := cb_some E
    refine r_callV0 X hl0 (ci := 0) dX0_readArguments_117 y_X0_readInto m_X0_186 rfl rfl e60 (t_x0_readInto (l := l) (G := G) e58) rfl rfl (Nat.le_of_ble_eq_true rfl) (by decide) ?_
    by_cases c61 : bz r56
    · rw [if_pos c61] at E
      cases E
      exact r_zret X hr c61 dX0_readArguments_120 (by decide) (by decide)
    · rw [if_neg c61] at E; cases E
  rw [if_neg c53] at E
  by_cases c62 : x3 = 7
  · rw [if_pos c62] at E
    refine r_tswI X 7 86 dX0_readArguments_6 c62 (by decide) (by decide) rfl (by decide) ?_
    refine r_aload_n X 0 dX0_readArguments_86 rfl rfl ?_
    refine r_aload_n X 1 dX0_readArguments_87 rfl rfl ?_
    refine r_iload_n X 2 dX0_readArguments_88 rfl rfl ?_
    refine r_iconst X (v := 1) dX0_readArguments_89 (by decide) ?_
    refine r_bipush X (v := 99) dX0_readArguments_90 (by decide) ?_
    obtain ⟨u66, e67, E⟩ := gb_some E
    obtain ⟨r63, g64, e65, E⟩ := cb_some E
    refine r_callV0 X hl0 (ci := 0) dX0_readArguments_92 y_X0_readHikerAnd m_X0_179 rfl rfl e67 (t_x0_readHikerAnd (l := l) (G := G) e65) rfl rfl (Nat.le_of_ble_eq_true rfl) (by decide) ?_
    by_cases c68 : bz r63
    · rw [if_pos c68] at E
      cases E
      exact r_zret X hr c68 dX0_readArguments_95 (by decide) (by decide)
    · rw [if_neg c68] at E; cases E
  rw [if_neg c62] at E
  by_cases c69 : x3 = 8
  · rw [if_pos c69] at E
    refine r_tswI X 8 121 dX0_readArguments_6 c69 (by decide) (by decide) rfl (by decide) ?_
    refine r_aload_n X 0 dX0_readArguments_121 rfl rfl ?_
    refine r_aload_n X 1 dX0_readArguments_122 rfl rfl ?_
    obtain ⟨x70, e71, E⟩ := gb_some E
    refine r_getR X dX0_readArguments_123 f_X0_183 e71 ?_
    refine r_iload_n X 2 dX0_readArguments_126 rfl rfl ?_
    refine r_iconst X (v := 1) dX0_readArguments_127 (by decide) ?_
    refine r_bipush X (v := 48) dX0_readArguments_128 (by decide) ?_
    obtain ⟨u75, e76, E⟩ := gb_some E
    obtain ⟨r72, g73, e74, E⟩ := cb_some E
    refine r_callV0 X hl0 (ci := 0) dX0_readArguments_130 y_X0_readInto m_X0_186 rfl rfl e76 (t_x0_readInto (l := l) (G := G) e74) rfl rfl (Nat.le_of_ble_eq_true rfl) (by decide) ?_
    by_cases c77 : bz r72
    · rw [if_pos c77] at E
      cases E
      exact r_zret X hr c77 dX0_readArguments_133 (by decide) (by decide)
    · rw [if_neg c77] at E; cases E
  rw [if_neg c69] at E
  refine r_tswD X 134 dX0_readArguments_6 (tsw_out (fun k h1 h2 => by
    rcases (by omega : k = 0 ∨ k = 1 ∨ k = 2 ∨ k = 3 ∨ k = 4 ∨ k = 5 ∨ k = 6 ∨ k = 7 ∨ k = 8) with rfl | rfl | rfl | rfl | rfl | rfl | rfl | rfl | rfl
    · exact c5
    · exact c12
    · exact c21
    · exact c28
    · exact c35
    · exact c44
    · exact c53
    · exact c62
    · exact c69
    )) (by decide) ?_
  refine r_aload_n X 0 dX0_readArguments_134 rfl rfl ?_
  refine r_aload_n X 1 dX0_readArguments_135 rfl rfl ?_
  obtain ⟨x78, e79, E⟩ := gb_some E
  refine r_getR X dX0_readArguments_136 f_X0_183 e79 ?_
  refine r_iload_n X 2 dX0_readArguments_139 rfl rfl ?_
  refine r_iconst X (v := 0) dX0_readArguments_140 (by decide) ?_
  refine r_bipush X (v := 9) dX0_readArguments_141 (by decide) ?_
  obtain ⟨u83, e84, E⟩ := gb_some E
  obtain ⟨r80, g81, e82, E⟩ := cb_some E
  refine r_callV0 X hl0 (ci := 0) dX0_readArguments_143 y_X0_readInto m_X0_186 rfl rfl e84 (t_x0_readInto (l := l) (G := G) e82) rfl rfl (Nat.le_of_ble_eq_true rfl) (by decide) ?_
  by_cases c85 : bz r80
  · rw [if_pos c85] at E
    cases E
    exact r_zret X hr c85 dX0_readArguments_146 (by decide) (by decide)
  · rw [if_neg c85] at E; cases E
theorem t_x0_readArguments {l : Launch} {G : GG} {p : Nat} {b0 : Nat} {b1 : Int32} {g : AH} {r : Int32} {g1 : AH} (E : x0_readArguments p b0 b1 g = some (r, g1)) : Ct l G yX0_readArguments cX0_readArguments 3 (some .boolean) ⟨6, 0, 0, 242⟩ [.ref p, .ref b0, .int b1] g (some (.int r)) g1 :=
  ct_of (L0 := [(0, .ref p), (1, .ref b0), (2, .int b1)]) y_X0_readArguments rfl (Nat.le_of_ble_eq_true rfl) fun M hl0 X hr hnm => t_x0_readArguments_b X hl0 hr hnm E
set_option maxHeartbeats 4000000 in
set_option maxRecDepth 100000 in
theorem t_x0_readScript_l6 {l : Launch} {G : GG} {M : MC} (X : CX M G cX0_readScript 4 RX0 ⟨8, 0, 0, 264⟩) (hl0 : M.2.1 = l) (hr : (mM M).sig.returnType = (some .boolean)) (hnm : (mM M).name = yX0_readScript.name) {Q : State → Prop} {kc ks : Nat} {s9 : ((Int32) ⊕ ((Unit) ⊕ Int32))} {g1 : AH} {a0 : Nat} {a1 : Nat} {s0 : Int32} (hc : ∀ s1, s9 = .inl s1 → WW M G 4 Q kc ks g1 6 [(0, .ref a0), (1, .ref a1), (2, .int s1)] []) (hx : ∀ t, s9 = .inr t → Sum.elim (fun t1 => WW M G 4 Q kc ks g1 95 [] []) (fun t2 => ∃ mc ms : Nat, kc ≤ mc ∧ ks ≤ ms ∧ Q = RQ M G (some (.int t2)) g1 mc ms) t) {g : AH} (E : x0_readScript_l6 a0 a1 s0 g = some (s9, g1)) : WW M G 4 Q kc ks g 6 [(0, .ref a0), (1, .ref a1), (2, .int s0)] [] := by
  unfold x0_readScript_l6 at E
  refine r_iload_n X 2 dX0_readScript_6 rfl rfl ?_
  refine r_bipush X (v := 30) dX0_readScript_7 (by decide) ?_
  refine r_icmp_gt X 95 dX0_readScript_9 (by decide) (fun c1 => ?_) (fun c1 => ?_)
  · rw [if_pos c1] at E
    cases E
    exact r_pick (by rfl : lpick [(0, .ref a0), (1, .ref a1), (2, .int s0)] [] = _) (hx _ rfl)
  · rw [if_neg c1] at E
    refine r_aload_n X 1 dX0_readScript_12 rfl rfl ?_
    refine r_iload_n X 2 dX0_readScript_13 rfl rfl ?_
    obtain ⟨g2, e3, E⟩ := gb_some E
    refine r_put X dX0_readScript_14 f_X0_148 rfl rfl e3 ?_
    refine r_aload_n X 0 dX0_readScript_17 rfl rfl ?_
    obtain ⟨x4, e5, E⟩ := gb_some E
    refine r_getR X dX0_readScript_18 f_X0_12 e5 ?_
    obtain ⟨x6, e7, E⟩ := gb_some E
    refine r_getI X dX0_readScript_21 f_X0_110 e7 ?_
    refine r_if_ne X 29 dX0_readScript_24 (by decide) (fun c8 => ?_) (fun c8 => ?_)
    · rw [if_neg c8] at E
      refine r_aload_n X 0 dX0_readScript_29 rfl rfl ?_
      obtain ⟨u12, e13, E⟩ := gb_some E
      obtain ⟨r9, g10, e11, E⟩ := cb_some E
      refine r_callV0 X hl0 (ci := 0) dX0_readScript_30 y_X0_commandOfWord m_X0_151 rfl rfl e13 (t_x0_commandOfWord (l := l) (G := G) e11) rfl rfl (Nat.le_of_ble_eq_true rfl) (by decide) ?_
      refine r_istore_n X 3 (L1 := [(3, .int r9), (0, .ref a0), (1, .ref a1), (2, .int s0)]) dX0_readScript_33 rfl (by decide) rfl ?_
      refine r_iload_n X 3 dX0_readScript_34 rfl rfl ?_
      refine r_iconst X (v := (-1)) dX0_readScript_35 (by decide) ?_
      refine r_icmp_ne X 45 dX0_readScript_36 (by decide) (fun c14 => ?_) (fun c14 => ?_)
      · rw [if_neg c14] at E
        refine r_iload_n X 2 dX0_readScript_45 rfl rfl ?_
        refine r_bipush X (v := 30) dX0_readScript_46 (by decide) ?_
        refine r_icmp_lt X 57 dX0_readScript_48 (by decide) (fun c15 => ?_) (fun c15 => ?_)
        · rw [if_pos c15] at E
          refine r_aload_n X 0 dX0_readScript_57 rfl rfl ?_
          obtain ⟨x16, e17, E⟩ := gb_some E
          refine r_getR X dX0_readScript_58 f_X0_12 e17 ?_
          obtain ⟨u21, e22, E⟩ := gb_some E
          obtain ⟨r18, g19, e20, E⟩ := cb_some E
          refine r_callV0 X hl0 (ci := 7) dX0_readScript_61 y_X7_readNext m_X0_72 rfl rfl e22 (t_x7_readNext (l := l) (G := G) e20) rfl rfl (Nat.le_of_ble_eq_true rfl) (by decide) ?_
          refine r_aload_n X 1 dX0_readScript_64 rfl rfl ?_
          obtain ⟨x23, e24, E⟩ := gb_some E
          refine r_getR X dX0_readScript_65 f_X0_154 e24 ?_
          refine r_iload_n X 2 dX0_readScript_68 rfl rfl ?_
          refine r_iload_n X 3 dX0_readScript_69 rfl rfl ?_
          obtain ⟨g25, e26, E⟩ := gb_some E
          refine r_iast X dX0_readScript_70 e26 ?_
          refine r_aload_n X 0 dX0_readScript_71 rfl rfl ?_
          refine r_aload_n X 1 dX0_readScript_72 rfl rfl ?_
          refine r_iload_n X 2 dX0_readScript_73 rfl rfl ?_
          obtain ⟨u30, e31, E⟩ := gb_some E
          obtain ⟨r27, g28, e29, E⟩ := cb_some E
          refine r_callV0 X hl0 (ci := 0) dX0_readScript_74 y_X0_readArguments m_X0_157 rfl rfl e31 (t_x0_readArguments (l := l) (G := G) e29) rfl rfl (Nat.le_of_ble_eq_true rfl) (by decide) ?_
          refine r_if_eq X 87 dX0_readScript_77 (by decide) (fun c32 => ?_) (fun c32 => ?_)
          · rw [if_pos c32] at E
            refine r_iconst X (v := 0) dX0_readScript_87 (by decide) ?_
            cases E
            obtain ⟨mc9, ms9, h91, h92, rfl⟩ := hx _ rfl
            exact r_zret X hr (Or.inl rfl) dX0_readScript_88 h91 h92
          · rw [if_neg c32] at E
            refine r_aload_n X 0 dX0_readScript_80 rfl rfl ?_
            obtain ⟨u36, e37, E⟩ := gb_some E
            obtain ⟨r33, g34, e35, E⟩ := cb_some E
            refine r_callV0 X hl0 (ci := 0) dX0_readScript_81 y_X0_readSemicolon m_X0_75 rfl rfl e37 (t_x0_readSemicolon (l := l) (G := G) e35) rfl rfl (Nat.le_of_ble_eq_true rfl) (by decide) ?_
            refine r_if_ne X 89 dX0_readScript_84 (by decide) (fun c38 => ?_) (fun c38 => ?_)
            · rw [if_neg c38] at E
              refine r_iinc X (v := (s0 + 1)) (L1 := [(2, .int (s0 + 1)), (3, .int r9), (0, .ref a0), (1, .ref a1)]) dX0_readScript_89 rfl rfl (by decide) rfl ?_
              refine r_goto X 6 dX0_readScript_92 (by decide) ?_
              cases E
              exact r_pick (by rfl : lpick [(2, .int (s0 + 1)), (3, .int r9), (0, .ref a0), (1, .ref a1)] [2, 3, 0] = _) (hc _ rfl)
            · rw [if_pos c38] at E
              refine r_iconst X (v := 0) dX0_readScript_87 (by decide) ?_
              cases E
              obtain ⟨mc9, ms9, h91, h92, rfl⟩ := hx _ rfl
              exact r_zret X hr (Or.inl rfl) dX0_readScript_88 h91 h92
        · rw [if_neg c15] at E
          refine r_aload_n X 0 dX0_readScript_51 rfl rfl ?_
          refine r_iconst X (v := 3) dX0_readScript_52 (by decide) ?_
          obtain ⟨u42, e43, E⟩ := gb_some E
          obtain ⟨r39, g40, e41, E⟩ := cb_some E
          refine r_callV0 X hl0 (ci := 0) dX0_readScript_53 y_X0_fail m_X0_113 rfl rfl e43 (t_x0_fail (l := l) (G := G) e41) rfl rfl (Nat.le_of_ble_eq_true rfl) (by decide) ?_
          by_cases c44 : bz r39
          · rw [if_pos c44] at E
            cases E
            obtain ⟨mc9, ms9, h91, h92, rfl⟩ := hx _ rfl
            exact r_zret X hr c44 dX0_readScript_56 h91 h92
          · rw [if_neg c44] at E; cases E
      · rw [if_pos c14] at E
        refine r_aload_n X 0 dX0_readScript_39 rfl rfl ?_
        refine r_iconst X (v := 1) dX0_readScript_40 (by decide) ?_
        obtain ⟨u48, e49, E⟩ := gb_some E
        obtain ⟨r45, g46, e47, E⟩ := cb_some E
        refine r_callV0 X hl0 (ci := 0) dX0_readScript_41 y_X0_fail m_X0_113 rfl rfl e49 (t_x0_fail (l := l) (G := G) e47) rfl rfl (Nat.le_of_ble_eq_true rfl) (by decide) ?_
        by_cases c50 : bz r45
        · rw [if_pos c50] at E
          cases E
          obtain ⟨mc9, ms9, h91, h92, rfl⟩ := hx _ rfl
          exact r_zret X hr c50 dX0_readScript_44 h91 h92
        · rw [if_neg c50] at E; cases E
    · rw [if_pos c8] at E
      refine r_iconst X (v := 1) dX0_readScript_27 (by decide) ?_
      cases E
      obtain ⟨mc9, ms9, h91, h92, rfl⟩ := hx _ rfl
      exact r_zret X hr (Or.inr rfl) dX0_readScript_28 h91 h92
set_option maxHeartbeats 4000000 in
theorem t_x0_readScript_l6_r {l : Launch} {G : GG} {M : MC} (X : CX M G cX0_readScript 4 RX0 ⟨8, 0, 0, 264⟩) (hl0 : M.2.1 = l) (hr : (mM M).sig.returnType = (some .boolean)) (hnm : (mM M).name = yX0_readScript.name) {Q : State → Prop} {kc ks : Nat} {a0 : Nat} {a1 : Nat} : ∀ (n : Nat) (s0 : Int32) (g : AH) (t : ((Unit) ⊕ Int32)) (g1 : AH), loopX (x0_readScript_l6 a0 a1) n s0 g = some (t, g1) → Sum.elim (fun t1 => WW M G 4 Q kc ks g1 95 [] []) (fun t2 => ∃ mc ms : Nat, kc ≤ mc ∧ ks ≤ ms ∧ Q = RQ M G (some (.int t2)) g1 mc ms) t → WW M G 4 Q kc ks g 6 [(0, .ref a0), (1, .ref a1), (2, .int s0)] [] :=
  loop_cps (K := fun t g1 => Sum.elim (fun t1 => WW M G 4 Q kc ks g1 95 [] []) (fun t2 => ∃ mc ms : Nat, kc ≤ mc ∧ ks ≤ ms ∧ Q = RQ M G (some (.int t2)) g1 mc ms) t) (fun _ s0 g => WW M G 4 Q kc ks g 6 [(0, .ref a0), (1, .ref a1), (2, .int s0)] []) (fun n s0 g st g1 E hc hx => t_x0_readScript_l6 X hl0 hr hnm hc hx E)
set_option maxHeartbeats 4000000 in
set_option maxRecDepth 100000 in
theorem t_x0_readScript_b {l : Launch} {G : GG} {M : MC} (X : CX M G cX0_readScript 4 RX0 ⟨8, 0, 0, 264⟩) (hl0 : M.2.1 = l) (hr : (mM M).sig.returnType = (some .boolean)) (hnm : (mM M).name = yX0_readScript.name) {p : Nat} {b0 : Nat} {g : AH} {r : Int32} {g1 : AH} (E : x0_readScript p b0 g = some (r, g1)) : WW M G 4 (RQ M G (some (.int r)) g1 0 0) 0 0 g 0 [(0, .ref p), (1, .ref b0)] [] := by
  unfold x0_readScript at E
  refine r_aload_n X 0 dX0_readScript_0 rfl rfl ?_
  obtain ⟨u4, e5, E⟩ := gb_some E
  obtain ⟨r1, g2, e3, E⟩ := cb_some E
  refine r_callV0 X hl0 (ci := 0) dX0_readScript_1 y_X0_begin m_X0_25 rfl rfl e5 (t_x0_begin (l := l) (G := G) e3) rfl rfl (Nat.le_of_ble_eq_true rfl) (by decide) ?_
  refine r_iconst X (v := 0) dX0_readScript_4 (by decide) ?_
  refine r_istore_n X 2 (L1 := [(2, .int 0), (0, .ref p), (1, .ref b0)]) dX0_readScript_5 rfl (by decide) rfl ?_
  obtain ⟨t6, g7, e8, E⟩ := cb_some E
  rcases t6 with t9 | t10
  · rw [Sum.elim_inl] at E
    refine r_pick (by rfl : lpick [(2, .int 0), (0, .ref p), (1, .ref b0)] [1, 2, 0] = _) (t_x0_readScript_l6_r X hl0 hr hnm _ _ _ _ _ e8 ?_)
    refine r_iconst X (v := 0) dX0_readScript_95 (by decide) ?_
    cases E
    exact r_zret X hr (Or.inl rfl) dX0_readScript_96 (by decide) (by decide)
  · rw [Sum.elim_inr] at E
    cases E
    exact r_pick (by rfl : lpick [(2, .int 0), (0, .ref p), (1, .ref b0)] [1, 2, 0] = _) (t_x0_readScript_l6_r X hl0 hr hnm _ _ _ _ _ e8 ⟨_, _, by decide, by decide, rfl⟩)
theorem t_x0_readScript {l : Launch} {G : GG} {p : Nat} {b0 : Nat} {g : AH} {r : Int32} {g1 : AH} (E : x0_readScript p b0 g = some (r, g1)) : Ct l G yX0_readScript cX0_readScript 4 (some .boolean) ⟨8, 0, 0, 264⟩ [.ref p, .ref b0] g (some (.int r)) g1 :=
  ct_of (L0 := [(0, .ref p), (1, .ref b0)]) y_X0_readScript rfl (Nat.le_of_ble_eq_true rfl) fun M hl0 X hr hnm => t_x0_readScript_b X hl0 hr hnm E
set_option maxHeartbeats 4000000 in
set_option maxRecDepth 100000 in
theorem t_x3_hasHiker_b {l : Launch} {G : GG} {M : MC} (X : CX M G cX3_hasHiker 2 RX3 ⟨1, 0, 0, 60⟩) (hl0 : M.2.1 = l) (hr : (mM M).sig.returnType = (some .boolean)) (hnm : (mM M).name = yX3_hasHiker.name) {p : Nat} {b0 : Int32} {g : AH} {r : Int32} {g1 : AH} (E : x3_hasHiker p b0 g = some (r, g1)) : WW M G 2 (RQ M G (some (.int r)) g1 0 0) 0 0 g 0 [(0, .ref p), (1, .int b0)] [] := by
  unfold x3_hasHiker at E
  refine r_iconst X (v := 0) dX3_hasHiker_0 (by decide) ?_
  refine r_iload_n X 1 dX3_hasHiker_1 rfl rfl ?_
  refine r_icmp_gt X 17 dX3_hasHiker_2 (by decide) (fun c1 => ?_) (fun c1 => ?_)
  · rw [if_pos c1] at E
    refine r_iconst X (v := 0) dX3_hasHiker_17 (by decide) ?_
    cases E
    exact r_zret X hr (Or.inl rfl) dX3_hasHiker_18 (by decide) (by decide)
  · rw [if_neg c1] at E
    refine r_iload_n X 1 dX3_hasHiker_5 rfl rfl ?_
    refine r_aload_n X 0 dX3_hasHiker_6 rfl rfl ?_
    obtain ⟨x2, e3, E⟩ := gb_some E
    refine r_getI X dX3_hasHiker_7 f_X3_78 e3 ?_
    refine r_icmp_ge X 17 dX3_hasHiker_10 (by decide) (fun c4 => ?_) (fun c4 => ?_)
    · rw [if_pos c4] at E
      refine r_iconst X (v := 0) dX3_hasHiker_17 (by decide) ?_
      cases E
      exact r_zret X hr (Or.inl rfl) dX3_hasHiker_18 (by decide) (by decide)
    · rw [if_neg c4] at E
      refine r_iconst X (v := 1) dX3_hasHiker_13 (by decide) ?_
      refine r_goto X 18 dX3_hasHiker_14 (by decide) ?_
      cases E
      exact r_zret X hr (Or.inr rfl) dX3_hasHiker_18 (by decide) (by decide)
theorem t_x3_hasHiker {l : Launch} {G : GG} {p : Nat} {b0 : Int32} {g : AH} {r : Int32} {g1 : AH} (E : x3_hasHiker p b0 g = some (r, g1)) : Ct l G yX3_hasHiker cX3_hasHiker 2 (some .boolean) ⟨1, 0, 0, 60⟩ [.ref p, .int b0] g (some (.int r)) g1 :=
  ct_of (L0 := [(0, .ref p), (1, .int b0)]) y_X3_hasHiker rfl (Nat.le_of_ble_eq_true rfl) fun M hl0 X hr hnm => t_x3_hasHiker_b X hl0 hr hnm E
set_option maxHeartbeats 4000000 in
set_option maxRecDepth 100000 in
theorem t_x3_userOfBlanket_l2 {l : Launch} {G : GG} {M : MC} (X : CX M G cX3_userOfBlanket 3 RX3 ⟨1, 0, 0, 60⟩) (hl0 : M.2.1 = l) (hr : (mM M).sig.returnType = (some .int)) (hnm : (mM M).name = yX3_userOfBlanket.name) {Q : State → Prop} {kc ks : Nat} {s9 : ((Int32) ⊕ ((Unit) ⊕ Int32))} {g1 : AH} {a0 : Nat} {a1 : Int32} {s0 : Int32} (hc : ∀ s1, s9 = .inl s1 → WW M G 3 Q kc ks g1 2 [(0, .ref a0), (1, .int a1), (2, .int s1)] []) (hx : ∀ t, s9 = .inr t → Sum.elim (fun t1 => WW M G 3 Q kc ks g1 31 [] []) (fun t2 => ∃ mc ms : Nat, kc ≤ mc ∧ ks ≤ ms ∧ Q = RQ M G (some (.int t2)) g1 mc ms) t) {g : AH} (E : x3_userOfBlanket_l2 a0 a1 s0 g = some (s9, g1)) : WW M G 3 Q kc ks g 2 [(0, .ref a0), (1, .int a1), (2, .int s0)] [] := by
  unfold x3_userOfBlanket_l2 at E
  refine r_iload_n X 2 dX3_userOfBlanket_2 rfl rfl ?_
  refine r_aload_n X 0 dX3_userOfBlanket_3 rfl rfl ?_
  obtain ⟨x1, e2, E⟩ := gb_some E
  refine r_getI X dX3_userOfBlanket_4 f_X3_78 e2 ?_
  refine r_icmp_ge X 31 dX3_userOfBlanket_7 (by decide) (fun c3 => ?_) (fun c3 => ?_)
  · rw [if_pos c3] at E
    cases E
    exact r_pick (by rfl : lpick [(0, .ref a0), (1, .int a1), (2, .int s0)] [] = _) (hx _ rfl)
  · rw [if_neg c3] at E
    refine r_aload_n X 0 dX3_userOfBlanket_10 rfl rfl ?_
    obtain ⟨x4, e5, E⟩ := gb_some E
    refine r_getR X dX3_userOfBlanket_11 f_X3_29 e5 ?_
    refine r_iload_n X 2 dX3_userOfBlanket_14 rfl rfl ?_
    obtain ⟨x6, e7, E⟩ := gb_some E
    refine r_aald X 4 (by decide) rfl dX3_userOfBlanket_15 e7 ?_
    obtain ⟨x8, e9, E⟩ := gb_some E
    refine r_getI X dX3_userOfBlanket_16 f_X3_94 e9 ?_
    refine r_iload_n X 1 dX3_userOfBlanket_19 rfl rfl ?_
    refine r_icmp_ne X 25 dX3_userOfBlanket_20 (by decide) (fun c10 => ?_) (fun c10 => ?_)
    · rw [if_neg c10] at E
      refine r_iinc X (v := (s0 + 1)) (L1 := [(2, .int (s0 + 1)), (0, .ref a0), (1, .int a1)]) dX3_userOfBlanket_25 rfl rfl (by decide) rfl ?_
      refine r_goto X 2 dX3_userOfBlanket_28 (by decide) ?_
      cases E
      exact r_pick (by rfl : lpick [(2, .int (s0 + 1)), (0, .ref a0), (1, .int a1)] [1, 2, 0] = _) (hc _ rfl)
    · rw [if_pos c10] at E
      refine r_iload_n X 2 dX3_userOfBlanket_23 rfl rfl ?_
      cases E
      obtain ⟨mc9, ms9, h91, h92, rfl⟩ := hx _ rfl
      exact r_iret X hr dX3_userOfBlanket_24 h91 h92
set_option maxHeartbeats 4000000 in
theorem t_x3_userOfBlanket_l2_r {l : Launch} {G : GG} {M : MC} (X : CX M G cX3_userOfBlanket 3 RX3 ⟨1, 0, 0, 60⟩) (hl0 : M.2.1 = l) (hr : (mM M).sig.returnType = (some .int)) (hnm : (mM M).name = yX3_userOfBlanket.name) {Q : State → Prop} {kc ks : Nat} {a0 : Nat} {a1 : Int32} : ∀ (n : Nat) (s0 : Int32) (g : AH) (t : ((Unit) ⊕ Int32)) (g1 : AH), loopX (x3_userOfBlanket_l2 a0 a1) n s0 g = some (t, g1) → Sum.elim (fun t1 => WW M G 3 Q kc ks g1 31 [] []) (fun t2 => ∃ mc ms : Nat, kc ≤ mc ∧ ks ≤ ms ∧ Q = RQ M G (some (.int t2)) g1 mc ms) t → WW M G 3 Q kc ks g 2 [(0, .ref a0), (1, .int a1), (2, .int s0)] [] :=
  loop_cps (K := fun t g1 => Sum.elim (fun t1 => WW M G 3 Q kc ks g1 31 [] []) (fun t2 => ∃ mc ms : Nat, kc ≤ mc ∧ ks ≤ ms ∧ Q = RQ M G (some (.int t2)) g1 mc ms) t) (fun _ s0 g => WW M G 3 Q kc ks g 2 [(0, .ref a0), (1, .int a1), (2, .int s0)] []) (fun n s0 g st g1 E hc hx => t_x3_userOfBlanket_l2 X hl0 hr hnm hc hx E)
set_option maxHeartbeats 4000000 in
set_option maxRecDepth 100000 in
theorem t_x3_userOfBlanket_b {l : Launch} {G : GG} {M : MC} (X : CX M G cX3_userOfBlanket 3 RX3 ⟨1, 0, 0, 60⟩) (hl0 : M.2.1 = l) (hr : (mM M).sig.returnType = (some .int)) (hnm : (mM M).name = yX3_userOfBlanket.name) {p : Nat} {b0 : Int32} {g : AH} {r : Int32} {g1 : AH} (E : x3_userOfBlanket p b0 g = some (r, g1)) : WW M G 3 (RQ M G (some (.int r)) g1 0 0) 0 0 g 0 [(0, .ref p), (1, .int b0)] [] := by
  unfold x3_userOfBlanket at E
  refine r_iconst X (v := 0) dX3_userOfBlanket_0 (by decide) ?_
  refine r_istore_n X 2 (L1 := [(2, .int 0), (0, .ref p), (1, .int b0)]) dX3_userOfBlanket_1 rfl (by decide) rfl ?_
  obtain ⟨t1, g2, e3, E⟩ := cb_some E
  rcases t1 with t4 | t5
  · rw [Sum.elim_inl] at E
    refine r_pick (by rfl : lpick [(2, .int 0), (0, .ref p), (1, .int b0)] [1, 2, 0] = _) (t_x3_userOfBlanket_l2_r X hl0 hr hnm _ _ _ _ _ e3 ?_)
    refine r_iconst X (v := (-1)) dX3_userOfBlanket_31 (by decide) ?_
    cases E
    exact r_iret X hr dX3_userOfBlanket_32 (by decide) (by decide)
  · rw [Sum.elim_inr] at E
    cases E
    exact r_pick (by rfl : lpick [(2, .int 0), (0, .ref p), (1, .int b0)] [1, 2, 0] = _) (t_x3_userOfBlanket_l2_r X hl0 hr hnm _ _ _ _ _ e3 ⟨_, _, by decide, by decide, rfl⟩)
theorem t_x3_userOfBlanket {l : Launch} {G : GG} {p : Nat} {b0 : Int32} {g : AH} {r : Int32} {g1 : AH} (E : x3_userOfBlanket p b0 g = some (r, g1)) : Ct l G yX3_userOfBlanket cX3_userOfBlanket 3 (some .int) ⟨1, 0, 0, 60⟩ [.ref p, .int b0] g (some (.int r)) g1 :=
  ct_of (L0 := [(0, .ref p), (1, .int b0)]) y_X3_userOfBlanket rfl (Nat.le_of_ble_eq_true rfl) fun M hl0 X hr hnm => t_x3_userOfBlanket_b X hl0 hr hnm E
set_option maxHeartbeats 4000000 in
set_option maxRecDepth 100000 in
theorem t_x3_faultOfTake_b {l : Launch} {G : GG} {M : MC} (X : CX M G cX3_faultOfTake 3 RX3 ⟨2, 0, 0, 82⟩) (hl0 : M.2.1 = l) (hr : (mM M).sig.returnType = (some .int)) (hnm : (mM M).name = yX3_faultOfTake.name) {p : Nat} {b0 : Int32} {b1 : Int32} {g : AH} {r : Int32} {g1 : AH} (E : x3_faultOfTake p b0 b1 g = some (r, g1)) : WW M G 3 (RQ M G (some (.int r)) g1 0 0) 0 0 g 0 [(0, .ref p), (1, .int b0), (2, .int b1)] [] := by
  unfold x3_faultOfTake at E
  refine r_aload_n X 0 dX3_faultOfTake_0 rfl rfl ?_
  refine r_iload_n X 1 dX3_faultOfTake_1 rfl rfl ?_
  obtain ⟨u4, e5, E⟩ := gb_some E
  obtain ⟨r1, g2, e3, E⟩ := cb_some E
  refine r_callV0 X hl0 (ci := 3) dX3_faultOfTake_2 y_X3_hasHiker m_X3_248 rfl rfl e5 (t_x3_hasHiker (l := l) (G := G) e3) rfl rfl (Nat.le_of_ble_eq_true rfl) (by decide) ?_
  refine r_if_eq X 16 dX3_faultOfTake_5 (by decide) (fun c6 => ?_) (fun c6 => ?_)
  · rw [if_pos c6] at E
    refine r_iconst X (v := 1) dX3_faultOfTake_16 (by decide) ?_
    cases E
    exact r_iret X hr dX3_faultOfTake_17 (by decide) (by decide)
  · rw [if_neg c6] at E
    refine r_aload_n X 0 dX3_faultOfTake_8 rfl rfl ?_
    refine r_iload_n X 2 dX3_faultOfTake_9 rfl rfl ?_
    obtain ⟨u10, e11, E⟩ := gb_some E
    obtain ⟨r7, g8, e9, E⟩ := cb_some E
    refine r_callV0 X hl0 (ci := 3) dX3_faultOfTake_10 y_X3_hasBlanket m_X3_97 rfl rfl e11 (t_x3_hasBlanket (l := l) (G := G) e9) rfl rfl (Nat.le_of_ble_eq_true rfl) (by decide) ?_
    refine r_if_ne X 18 dX3_faultOfTake_13 (by decide) (fun c12 => ?_) (fun c12 => ?_)
    · rw [if_neg c12] at E
      refine r_aload_n X 0 dX3_faultOfTake_18 rfl rfl ?_
      refine r_iload_n X 2 dX3_faultOfTake_19 rfl rfl ?_
      obtain ⟨u16, e17, E⟩ := gb_some E
      obtain ⟨r13, g14, e15, E⟩ := cb_some E
      refine r_callV0 X hl0 (ci := 3) dX3_faultOfTake_20 y_X3_userOfBlanket m_X3_143 rfl rfl e17 (t_x3_userOfBlanket (l := l) (G := G) e15) rfl rfl (Nat.le_of_ble_eq_true rfl) (by decide) ?_
      refine r_iconst X (v := (-1)) dX3_faultOfTake_23 (by decide) ?_
      refine r_icmp_ne X 31 dX3_faultOfTake_24 (by decide) (fun c18 => ?_) (fun c18 => ?_)
      · rw [if_neg c18] at E
        refine r_iconst X (v := 3) dX3_faultOfTake_31 (by decide) ?_
        cases E
        exact r_iret X hr dX3_faultOfTake_32 (by decide) (by decide)
      · rw [if_pos c18] at E
        refine r_iconst X (v := 0) dX3_faultOfTake_27 (by decide) ?_
        refine r_goto X 32 dX3_faultOfTake_28 (by decide) ?_
        cases E
        exact r_iret X hr dX3_faultOfTake_32 (by decide) (by decide)
    · rw [if_pos c12] at E
      refine r_iconst X (v := 1) dX3_faultOfTake_16 (by decide) ?_
      cases E
      exact r_iret X hr dX3_faultOfTake_17 (by decide) (by decide)
theorem t_x3_faultOfTake {l : Launch} {G : GG} {p : Nat} {b0 : Int32} {b1 : Int32} {g : AH} {r : Int32} {g1 : AH} (E : x3_faultOfTake p b0 b1 g = some (r, g1)) : Ct l G yX3_faultOfTake cX3_faultOfTake 3 (some .int) ⟨2, 0, 0, 82⟩ [.ref p, .int b0, .int b1] g (some (.int r)) g1 :=
  ct_of (L0 := [(0, .ref p), (1, .int b0), (2, .int b1)]) y_X3_faultOfTake rfl (Nat.le_of_ble_eq_true rfl) fun M hl0 X hr hnm => t_x3_faultOfTake_b X hl0 hr hnm E
set_option maxHeartbeats 4000000 in
set_option maxRecDepth 100000 in
theorem t_x3_faultOfReturn_b {l : Launch} {G : GG} {M : MC} (X : CX M G cX3_faultOfReturn 2 RX3 ⟨2, 0, 0, 81⟩) (hl0 : M.2.1 = l) (hr : (mM M).sig.returnType = (some .int)) (hnm : (mM M).name = yX3_faultOfReturn.name) {p : Nat} {b0 : Int32} {g : AH} {r : Int32} {g1 : AH} (E : x3_faultOfReturn p b0 g = some (r, g1)) : WW M G 2 (RQ M G (some (.int r)) g1 0 0) 0 0 g 0 [(0, .ref p), (1, .int b0)] [] := by
  unfold x3_faultOfReturn at E
  refine r_aload_n X 0 dX3_faultOfReturn_0 rfl rfl ?_
  refine r_iload_n X 1 dX3_faultOfReturn_1 rfl rfl ?_
  obtain ⟨u4, e5, E⟩ := gb_some E
  obtain ⟨r1, g2, e3, E⟩ := cb_some E
  refine r_callV0 X hl0 (ci := 3) dX3_faultOfReturn_2 y_X3_hasHiker m_X3_248 rfl rfl e5 (t_x3_hasHiker (l := l) (G := G) e3) rfl rfl (Nat.le_of_ble_eq_true rfl) (by decide) ?_
  refine r_if_ne X 10 dX3_faultOfReturn_5 (by decide) (fun c6 => ?_) (fun c6 => ?_)
  · rw [if_neg c6] at E
    refine r_aload_n X 0 dX3_faultOfReturn_10 rfl rfl ?_
    obtain ⟨x7, e8, E⟩ := gb_some E
    refine r_getR X dX3_faultOfReturn_11 f_X3_29 e8 ?_
    refine r_iload_n X 1 dX3_faultOfReturn_14 rfl rfl ?_
    obtain ⟨x9, e10, E⟩ := gb_some E
    refine r_aald X 4 (by decide) rfl dX3_faultOfReturn_15 e10 ?_
    obtain ⟨x11, e12, E⟩ := gb_some E
    refine r_getI X dX3_faultOfReturn_16 f_X3_94 e12 ?_
    refine r_iconst X (v := (-1)) dX3_faultOfReturn_19 (by decide) ?_
    refine r_icmp_ne X 27 dX3_faultOfReturn_20 (by decide) (fun c13 => ?_) (fun c13 => ?_)
    · rw [if_neg c13] at E
      refine r_iconst X (v := 0) dX3_faultOfReturn_27 (by decide) ?_
      cases E
      exact r_iret X hr dX3_faultOfReturn_28 (by decide) (by decide)
    · rw [if_pos c13] at E
      refine r_iconst X (v := 3) dX3_faultOfReturn_23 (by decide) ?_
      refine r_goto X 28 dX3_faultOfReturn_24 (by decide) ?_
      cases E
      exact r_iret X hr dX3_faultOfReturn_28 (by decide) (by decide)
  · rw [if_pos c6] at E
    refine r_iconst X (v := 1) dX3_faultOfReturn_8 (by decide) ?_
    cases E
    exact r_iret X hr dX3_faultOfReturn_9 (by decide) (by decide)
theorem t_x3_faultOfReturn {l : Launch} {G : GG} {p : Nat} {b0 : Int32} {g : AH} {r : Int32} {g1 : AH} (E : x3_faultOfReturn p b0 g = some (r, g1)) : Ct l G yX3_faultOfReturn cX3_faultOfReturn 2 (some .int) ⟨2, 0, 0, 81⟩ [.ref p, .int b0] g (some (.int r)) g1 :=
  ct_of (L0 := [(0, .ref p), (1, .int b0)]) y_X3_faultOfReturn rfl (Nat.le_of_ble_eq_true rfl) fun M hl0 X hr hnm => t_x3_faultOfReturn_b X hl0 hr hnm E
set_option maxHeartbeats 4000000 in
set_option maxRecDepth 100000 in
theorem t_x3_faultOfSwap_j59 {l : Launch} {G : GG} {M : MC} (X : CX M G cX3_faultOfSwap 4 RX3 ⟨2, 0, 0, 81⟩) (hl0 : M.2.1 = l) (hr : (mM M).sig.returnType = (some .int)) (hnm : (mM M).name = yX3_faultOfSwap.name)  {g : AH} {r : Int32} {g1 : AH} (E : x3_faultOfSwap_j59  g = some (r, g1)) : WW M G 4 (RQ M G (some (.int r)) g1 0 0) 0 0 g 59 [] [] := by
  unfold x3_faultOfSwap_j59 at E
  refine r_iconst X (v := 3) dX3_faultOfSwap_59 (by decide) ?_
  refine r_goto X 64 dX3_faultOfSwap_60 (by decide) ?_
  cases E
  exact r_iret X hr dX3_faultOfSwap_64 (by decide) (by decide)
set_option maxHeartbeats 4000000 in
set_option maxRecDepth 100000 in
theorem t_x3_faultOfSwap_j49 {l : Launch} {G : GG} {M : MC} (X : CX M G cX3_faultOfSwap 4 RX3 ⟨2, 0, 0, 81⟩) (hl0 : M.2.1 = l) (hr : (mM M).sig.returnType = (some .int)) (hnm : (mM M).name = yX3_faultOfSwap.name) {a1 : Int32} {a2 : Int32} {s0 : Int32} {g : AH} {r : Int32} {g1 : AH} (E : x3_faultOfSwap_j49 a1 a2 s0 g = some (r, g1)) : WW M G 4 (RQ M G (some (.int r)) g1 0 0) 0 0 g 49 [(1, .int a1), (2, .int a2)] [.int s0] := by
  unfold x3_faultOfSwap_j49 at E
  refine r_istore_n X 3 (L1 := [(3, .int s0), (1, .int a1), (2, .int a2)]) dX3_faultOfSwap_49 rfl (by decide) rfl ?_
  refine r_iload_n X 1 dX3_faultOfSwap_50 rfl rfl ?_
  refine r_iload_n X 2 dX3_faultOfSwap_51 rfl rfl ?_
  refine r_icmp_eq X 59 dX3_faultOfSwap_52 (by decide) (fun c1 => ?_) (fun c1 => ?_)
  · rw [if_pos c1] at E
    exact r_pick (by rfl : lpick [(3, .int s0), (1, .int a1), (2, .int a2)] [] = _) (t_x3_faultOfSwap_j59 X hl0 hr hnm E)
  · rw [if_neg c1] at E
    refine r_iload_n X 3 dX3_faultOfSwap_55 rfl rfl ?_
    refine r_if_eq X 63 dX3_faultOfSwap_56 (by decide) (fun c2 => ?_) (fun c2 => ?_)
    · rw [if_pos c2] at E
      refine r_iconst X (v := 0) dX3_faultOfSwap_63 (by decide) ?_
      cases E
      exact r_iret X hr dX3_faultOfSwap_64 (by decide) (by decide)
    · rw [if_neg c2] at E
      exact r_pick (by rfl : lpick [(3, .int s0), (1, .int a1), (2, .int a2)] [] = _) (t_x3_faultOfSwap_j59 X hl0 hr hnm E)
set_option maxHeartbeats 4000000 in
set_option maxRecDepth 100000 in
theorem t_x3_faultOfSwap_j48 {l : Launch} {G : GG} {M : MC} (X : CX M G cX3_faultOfSwap 4 RX3 ⟨2, 0, 0, 81⟩) (hl0 : M.2.1 = l) (hr : (mM M).sig.returnType = (some .int)) (hnm : (mM M).name = yX3_faultOfSwap.name) {a1 : Int32} {a2 : Int32} {g : AH} {r : Int32} {g1 : AH} (E : x3_faultOfSwap_j48 a1 a2 g = some (r, g1)) : WW M G 4 (RQ M G (some (.int r)) g1 0 0) 0 0 g 48 [(1, .int a1), (2, .int a2)] [] := by
  unfold x3_faultOfSwap_j48 at E
  refine r_iconst X (v := 0) dX3_faultOfSwap_48 (by decide) ?_
  exact r_pick (by rfl : lpick [(1, .int a1), (2, .int a2)] [0, 1] = _) (t_x3_faultOfSwap_j49 X hl0 hr hnm E)
set_option maxHeartbeats 4000000 in
set_option maxRecDepth 100000 in
theorem t_x3_faultOfSwap_b {l : Launch} {G : GG} {M : MC} (X : CX M G cX3_faultOfSwap 4 RX3 ⟨2, 0, 0, 81⟩) (hl0 : M.2.1 = l) (hr : (mM M).sig.returnType = (some .int)) (hnm : (mM M).name = yX3_faultOfSwap.name) {p : Nat} {b0 : Int32} {b1 : Int32} {g : AH} {r : Int32} {g1 : AH} (E : x3_faultOfSwap p b0 b1 g = some (r, g1)) : WW M G 4 (RQ M G (some (.int r)) g1 0 0) 0 0 g 0 [(0, .ref p), (1, .int b0), (2, .int b1)] [] := by
  unfold x3_faultOfSwap at E
  refine r_aload_n X 0 dX3_faultOfSwap_0 rfl rfl ?_
  refine r_iload_n X 1 dX3_faultOfSwap_1 rfl rfl ?_
  obtain ⟨u4, e5, E⟩ := gb_some E
  obtain ⟨r1, g2, e3, E⟩ := cb_some E
  refine r_callV0 X hl0 (ci := 3) dX3_faultOfSwap_2 y_X3_hasHiker m_X3_248 rfl rfl e5 (t_x3_hasHiker (l := l) (G := G) e3) rfl rfl (Nat.le_of_ble_eq_true rfl) (by decide) ?_
  refine r_if_eq X 16 dX3_faultOfSwap_5 (by decide) (fun c6 => ?_) (fun c6 => ?_)
  · rw [if_pos c6] at E
    refine r_iconst X (v := 1) dX3_faultOfSwap_16 (by decide) ?_
    cases E
    exact r_iret X hr dX3_faultOfSwap_17 (by decide) (by decide)
  · rw [if_neg c6] at E
    refine r_aload_n X 0 dX3_faultOfSwap_8 rfl rfl ?_
    refine r_iload_n X 2 dX3_faultOfSwap_9 rfl rfl ?_
    obtain ⟨u10, e11, E⟩ := gb_some E
    obtain ⟨r7, g8, e9, E⟩ := cb_some E
    refine r_callV0 X hl0 (ci := 3) dX3_faultOfSwap_10 y_X3_hasHiker m_X3_248 rfl rfl e11 (t_x3_hasHiker (l := l) (G := G) e9) rfl rfl (Nat.le_of_ble_eq_true rfl) (by decide) ?_
    refine r_if_ne X 18 dX3_faultOfSwap_13 (by decide) (fun c12 => ?_) (fun c12 => ?_)
    · rw [if_neg c12] at E
      refine r_aload_n X 0 dX3_faultOfSwap_18 rfl rfl ?_
      obtain ⟨x13, e14, E⟩ := gb_some E
      refine r_getR X dX3_faultOfSwap_19 f_X3_29 e14 ?_
      refine r_iload_n X 1 dX3_faultOfSwap_22 rfl rfl ?_
      obtain ⟨x15, e16, E⟩ := gb_some E
      refine r_aald X 4 (by decide) rfl dX3_faultOfSwap_23 e16 ?_
      obtain ⟨x17, e18, E⟩ := gb_some E
      refine r_getI X dX3_faultOfSwap_24 f_X3_94 e18 ?_
      refine r_iconst X (v := (-1)) dX3_faultOfSwap_27 (by decide) ?_
      refine r_icmp_ne X 48 dX3_faultOfSwap_28 (by decide) (fun c19 => ?_) (fun c19 => ?_)
      · rw [if_neg c19] at E
        exact r_pick (by rfl : lpick [(0, .ref p), (1, .int b0), (2, .int b1)] [1, 2] = _) (t_x3_faultOfSwap_j48 X hl0 hr hnm E)
      · rw [if_pos c19] at E
        refine r_aload_n X 0 dX3_faultOfSwap_31 rfl rfl ?_
        obtain ⟨x20, e21, E⟩ := gb_some E
        refine r_getR X dX3_faultOfSwap_32 f_X3_29 e21 ?_
        refine r_iload_n X 2 dX3_faultOfSwap_35 rfl rfl ?_
        obtain ⟨x22, e23, E⟩ := gb_some E
        refine r_aald X 4 (by decide) rfl dX3_faultOfSwap_36 e23 ?_
        obtain ⟨x24, e25, E⟩ := gb_some E
        refine r_getI X dX3_faultOfSwap_37 f_X3_94 e25 ?_
        refine r_iconst X (v := (-1)) dX3_faultOfSwap_40 (by decide) ?_
        refine r_icmp_ne X 48 dX3_faultOfSwap_41 (by decide) (fun c26 => ?_) (fun c26 => ?_)
        · rw [if_neg c26] at E
          exact r_pick (by rfl : lpick [(0, .ref p), (1, .int b0), (2, .int b1)] [1, 2] = _) (t_x3_faultOfSwap_j48 X hl0 hr hnm E)
        · rw [if_pos c26] at E
          refine r_iconst X (v := 1) dX3_faultOfSwap_44 (by decide) ?_
          refine r_goto X 49 dX3_faultOfSwap_45 (by decide) ?_
          exact r_pick (by rfl : lpick [(0, .ref p), (1, .int b0), (2, .int b1)] [1, 2] = _) (t_x3_faultOfSwap_j49 X hl0 hr hnm E)
    · rw [if_pos c12] at E
      refine r_iconst X (v := 1) dX3_faultOfSwap_16 (by decide) ?_
      cases E
      exact r_iret X hr dX3_faultOfSwap_17 (by decide) (by decide)
theorem t_x3_faultOfSwap {l : Launch} {G : GG} {p : Nat} {b0 : Int32} {b1 : Int32} {g : AH} {r : Int32} {g1 : AH} (E : x3_faultOfSwap p b0 b1 g = some (r, g1)) : Ct l G yX3_faultOfSwap cX3_faultOfSwap 4 (some .int) ⟨2, 0, 0, 81⟩ [.ref p, .int b0, .int b1] g (some (.int r)) g1 :=
  ct_of (L0 := [(0, .ref p), (1, .int b0), (2, .int b1)]) y_X3_faultOfSwap rfl (Nat.le_of_ble_eq_true rfl) fun M hl0 X hr hnm => t_x3_faultOfSwap_b X hl0 hr hnm E
set_option maxHeartbeats 4000000 in
set_option maxRecDepth 100000 in
theorem t_x3_sleeperIn_b {l : Launch} {G : GG} {M : MC} (X : CX M G cX3_sleeperIn 2 RX3 ⟨2, 0, 0, 81⟩) (hl0 : M.2.1 = l) (hr : (mM M).sig.returnType = (some .int)) (hnm : (mM M).name = yX3_sleeperIn.name) {p : Nat} {b0 : Int32} {g : AH} {r : Int32} {g1 : AH} (E : x3_sleeperIn p b0 g = some (r, g1)) : WW M G 2 (RQ M G (some (.int r)) g1 0 0) 0 0 g 0 [(0, .ref p), (1, .int b0)] [] := by
  unfold x3_sleeperIn at E
  refine r_aload_n X 0 dX3_sleeperIn_0 rfl rfl ?_
  refine r_iload_n X 1 dX3_sleeperIn_1 rfl rfl ?_
  obtain ⟨u4, e5, E⟩ := gb_some E
  obtain ⟨r1, g2, e3, E⟩ := cb_some E
  refine r_callV0 X hl0 (ci := 3) dX3_sleeperIn_2 y_X3_hasBunk m_X3_114 rfl rfl e5 (t_x3_hasBunk (l := l) (G := G) e3) rfl rfl (Nat.le_of_ble_eq_true rfl) (by decide) ?_
  refine r_if_eq X 19 dX3_sleeperIn_5 (by decide) (fun c6 => ?_) (fun c6 => ?_)
  · rw [if_pos c6] at E
    refine r_iconst X (v := (-1)) dX3_sleeperIn_19 (by decide) ?_
    cases E
    exact r_iret X hr dX3_sleeperIn_20 (by decide) (by decide)
  · rw [if_neg c6] at E
    refine r_aload_n X 0 dX3_sleeperIn_8 rfl rfl ?_
    obtain ⟨x7, e8, E⟩ := gb_some E
    refine r_getR X dX3_sleeperIn_9 f_X3_21 e8 ?_
    refine r_iload_n X 1 dX3_sleeperIn_12 rfl rfl ?_
    refine r_iconst X (v := 2) dX3_sleeperIn_13 (by decide) ?_
    refine r_iadd X dX3_sleeperIn_14 ?_
    obtain ⟨x9, e10, E⟩ := gb_some E
    refine r_iald X dX3_sleeperIn_15 e10 ?_
    refine r_goto X 20 dX3_sleeperIn_16 (by decide) ?_
    cases E
    exact r_iret X hr dX3_sleeperIn_20 (by decide) (by decide)
theorem t_x3_sleeperIn {l : Launch} {G : GG} {p : Nat} {b0 : Int32} {g : AH} {r : Int32} {g1 : AH} (E : x3_sleeperIn p b0 g = some (r, g1)) : Ct l G yX3_sleeperIn cX3_sleeperIn 2 (some .int) ⟨2, 0, 0, 81⟩ [.ref p, .int b0] g (some (.int r)) g1 :=
  ct_of (L0 := [(0, .ref p), (1, .int b0)]) y_X3_sleeperIn rfl (Nat.le_of_ble_eq_true rfl) fun M hl0 X hr hnm => t_x3_sleeperIn_b X hl0 hr hnm E
set_option maxHeartbeats 4000000 in
set_option maxRecDepth 100000 in
theorem t_x3_faultOfLie_b {l : Launch} {G : GG} {M : MC} (X : CX M G cX3_faultOfLie 3 RX3 ⟨3, 0, 0, 102⟩) (hl0 : M.2.1 = l) (hr : (mM M).sig.returnType = (some .int)) (hnm : (mM M).name = yX3_faultOfLie.name) {p : Nat} {b0 : Int32} {b1 : Int32} {g : AH} {r : Int32} {g1 : AH} (E : x3_faultOfLie p b0 b1 g = some (r, g1)) : WW M G 3 (RQ M G (some (.int r)) g1 0 0) 0 0 g 0 [(0, .ref p), (1, .int b0), (2, .int b1)] [] := by
  unfold x3_faultOfLie at E
  refine r_aload_n X 0 dX3_faultOfLie_0 rfl rfl ?_
  refine r_iload_n X 1 dX3_faultOfLie_1 rfl rfl ?_
  obtain ⟨u4, e5, E⟩ := gb_some E
  obtain ⟨r1, g2, e3, E⟩ := cb_some E
  refine r_callV0 X hl0 (ci := 3) dX3_faultOfLie_2 y_X3_hasHiker m_X3_248 rfl rfl e5 (t_x3_hasHiker (l := l) (G := G) e3) rfl rfl (Nat.le_of_ble_eq_true rfl) (by decide) ?_
  refine r_if_eq X 16 dX3_faultOfLie_5 (by decide) (fun c6 => ?_) (fun c6 => ?_)
  · rw [if_pos c6] at E
    refine r_iconst X (v := 1) dX3_faultOfLie_16 (by decide) ?_
    cases E
    exact r_iret X hr dX3_faultOfLie_17 (by decide) (by decide)
  · rw [if_neg c6] at E
    refine r_aload_n X 0 dX3_faultOfLie_8 rfl rfl ?_
    refine r_iload_n X 2 dX3_faultOfLie_9 rfl rfl ?_
    obtain ⟨u10, e11, E⟩ := gb_some E
    obtain ⟨r7, g8, e9, E⟩ := cb_some E
    refine r_callV0 X hl0 (ci := 3) dX3_faultOfLie_10 y_X3_hasBunk m_X3_114 rfl rfl e11 (t_x3_hasBunk (l := l) (G := G) e9) rfl rfl (Nat.le_of_ble_eq_true rfl) (by decide) ?_
    refine r_if_ne X 18 dX3_faultOfLie_13 (by decide) (fun c12 => ?_) (fun c12 => ?_)
    · rw [if_neg c12] at E
      refine r_aload_n X 0 dX3_faultOfLie_18 rfl rfl ?_
      refine r_iload_n X 2 dX3_faultOfLie_19 rfl rfl ?_
      obtain ⟨u16, e17, E⟩ := gb_some E
      obtain ⟨r13, g14, e15, E⟩ := cb_some E
      refine r_callV0 X hl0 (ci := 3) dX3_faultOfLie_20 y_X3_sleeperIn m_X3_127 rfl rfl e17 (t_x3_sleeperIn (l := l) (G := G) e15) rfl rfl (Nat.le_of_ble_eq_true rfl) (by decide) ?_
      refine r_iconst X (v := (-1)) dX3_faultOfLie_23 (by decide) ?_
      refine r_icmp_ne X 31 dX3_faultOfLie_24 (by decide) (fun c18 => ?_) (fun c18 => ?_)
      · rw [if_neg c18] at E
        refine r_iconst X (v := 3) dX3_faultOfLie_31 (by decide) ?_
        cases E
        exact r_iret X hr dX3_faultOfLie_32 (by decide) (by decide)
      · rw [if_pos c18] at E
        refine r_iconst X (v := 0) dX3_faultOfLie_27 (by decide) ?_
        refine r_goto X 32 dX3_faultOfLie_28 (by decide) ?_
        cases E
        exact r_iret X hr dX3_faultOfLie_32 (by decide) (by decide)
    · rw [if_pos c12] at E
      refine r_iconst X (v := 1) dX3_faultOfLie_16 (by decide) ?_
      cases E
      exact r_iret X hr dX3_faultOfLie_17 (by decide) (by decide)
theorem t_x3_faultOfLie {l : Launch} {G : GG} {p : Nat} {b0 : Int32} {b1 : Int32} {g : AH} {r : Int32} {g1 : AH} (E : x3_faultOfLie p b0 b1 g = some (r, g1)) : Ct l G yX3_faultOfLie cX3_faultOfLie 3 (some .int) ⟨3, 0, 0, 102⟩ [.ref p, .int b0, .int b1] g (some (.int r)) g1 :=
  ct_of (L0 := [(0, .ref p), (1, .int b0), (2, .int b1)]) y_X3_faultOfLie rfl (Nat.le_of_ble_eq_true rfl) fun M hl0 X hr hnm => t_x3_faultOfLie_b X hl0 hr hnm E
set_option maxHeartbeats 4000000 in
set_option maxRecDepth 100000 in
theorem t_x3_faultOfRise_b {l : Launch} {G : GG} {M : MC} (X : CX M G cX3_faultOfRise 2 RX3 ⟨2, 0, 0, 81⟩) (hl0 : M.2.1 = l) (hr : (mM M).sig.returnType = (some .int)) (hnm : (mM M).name = yX3_faultOfRise.name) {p : Nat} {b0 : Int32} {g : AH} {r : Int32} {g1 : AH} (E : x3_faultOfRise p b0 g = some (r, g1)) : WW M G 2 (RQ M G (some (.int r)) g1 0 0) 0 0 g 0 [(0, .ref p), (1, .int b0)] [] := by
  unfold x3_faultOfRise at E
  refine r_aload_n X 0 dX3_faultOfRise_0 rfl rfl ?_
  refine r_iload_n X 1 dX3_faultOfRise_1 rfl rfl ?_
  obtain ⟨u4, e5, E⟩ := gb_some E
  obtain ⟨r1, g2, e3, E⟩ := cb_some E
  refine r_callV0 X hl0 (ci := 3) dX3_faultOfRise_2 y_X3_hasHiker m_X3_248 rfl rfl e5 (t_x3_hasHiker (l := l) (G := G) e3) rfl rfl (Nat.le_of_ble_eq_true rfl) (by decide) ?_
  refine r_if_ne X 10 dX3_faultOfRise_5 (by decide) (fun c6 => ?_) (fun c6 => ?_)
  · rw [if_neg c6] at E
    refine r_aload_n X 0 dX3_faultOfRise_10 rfl rfl ?_
    obtain ⟨x7, e8, E⟩ := gb_some E
    refine r_getR X dX3_faultOfRise_11 f_X3_29 e8 ?_
    refine r_iload_n X 1 dX3_faultOfRise_14 rfl rfl ?_
    obtain ⟨x9, e10, E⟩ := gb_some E
    refine r_aald X 4 (by decide) rfl dX3_faultOfRise_15 e10 ?_
    obtain ⟨x11, e12, E⟩ := gb_some E
    refine r_getI X dX3_faultOfRise_16 f_X3_104 e12 ?_
    refine r_iconst X (v := (-1)) dX3_faultOfRise_19 (by decide) ?_
    refine r_icmp_ne X 27 dX3_faultOfRise_20 (by decide) (fun c13 => ?_) (fun c13 => ?_)
    · rw [if_neg c13] at E
      refine r_iconst X (v := 0) dX3_faultOfRise_27 (by decide) ?_
      cases E
      exact r_iret X hr dX3_faultOfRise_28 (by decide) (by decide)
    · rw [if_pos c13] at E
      refine r_iconst X (v := 3) dX3_faultOfRise_23 (by decide) ?_
      refine r_goto X 28 dX3_faultOfRise_24 (by decide) ?_
      cases E
      exact r_iret X hr dX3_faultOfRise_28 (by decide) (by decide)
  · rw [if_pos c6] at E
    refine r_iconst X (v := 1) dX3_faultOfRise_8 (by decide) ?_
    cases E
    exact r_iret X hr dX3_faultOfRise_9 (by decide) (by decide)
theorem t_x3_faultOfRise {l : Launch} {G : GG} {p : Nat} {b0 : Int32} {g : AH} {r : Int32} {g1 : AH} (E : x3_faultOfRise p b0 g = some (r, g1)) : Ct l G yX3_faultOfRise cX3_faultOfRise 2 (some .int) ⟨2, 0, 0, 81⟩ [.ref p, .int b0] g (some (.int r)) g1 :=
  ct_of (L0 := [(0, .ref p), (1, .int b0)]) y_X3_faultOfRise rfl (Nat.le_of_ble_eq_true rfl) fun M hl0 X hr hnm => t_x3_faultOfRise_b X hl0 hr hnm E
set_option maxHeartbeats 4000000 in
set_option maxRecDepth 100000 in
theorem t_x3_faultOfFetch_b {l : Launch} {G : GG} {M : MC} (X : CX M G cX3_faultOfFetch 2 RX3 ⟨2, 0, 0, 82⟩) (hl0 : M.2.1 = l) (hr : (mM M).sig.returnType = (some .int)) (hnm : (mM M).name = yX3_faultOfFetch.name) {p : Nat} {b0 : Int32} {g : AH} {r : Int32} {g1 : AH} (E : x3_faultOfFetch p b0 g = some (r, g1)) : WW M G 2 (RQ M G (some (.int r)) g1 0 0) 0 0 g 0 [(0, .ref p), (1, .int b0)] [] := by
  unfold x3_faultOfFetch at E
  refine r_iload_n X 1 dX3_faultOfFetch_0 rfl rfl ?_
  refine r_iconst X (v := 1) dX3_faultOfFetch_1 (by decide) ?_
  refine r_bipush X (v := 50) dX3_faultOfFetch_2 (by decide) ?_
  obtain ⟨r1, g2, e3, E⟩ := cb_some E
  refine r_callSN0 X hl0 dX3_faultOfFetch_4 y_X8_isWithin (List.mem_of_getElem? (i := 9) rfl) (t_x8_isWithin (l := l) (G := G) e3) rfl rfl (Nat.le_of_ble_eq_true rfl) (by decide) ?_
  refine r_if_ne X 12 dX3_faultOfFetch_7 (by decide) (fun c4 => ?_) (fun c4 => ?_)
  · rw [if_neg c4] at E
    refine r_aload_n X 0 dX3_faultOfFetch_12 rfl rfl ?_
    obtain ⟨x5, e6, E⟩ := gb_some E
    refine r_getI X dX3_faultOfFetch_13 f_X3_34 e6 ?_
    refine r_iload_n X 1 dX3_faultOfFetch_16 rfl rfl ?_
    refine r_iadd X dX3_faultOfFetch_17 ?_
    refine r_bipush X (v := 99) dX3_faultOfFetch_18 (by decide) ?_
    refine r_icmp_le X 27 dX3_faultOfFetch_20 (by decide) (fun c7 => ?_) (fun c7 => ?_)
    · rw [if_pos c7] at E
      refine r_iconst X (v := 0) dX3_faultOfFetch_27 (by decide) ?_
      cases E
      exact r_iret X hr dX3_faultOfFetch_28 (by decide) (by decide)
    · rw [if_neg c7] at E
      refine r_iconst X (v := 3) dX3_faultOfFetch_23 (by decide) ?_
      refine r_goto X 28 dX3_faultOfFetch_24 (by decide) ?_
      cases E
      exact r_iret X hr dX3_faultOfFetch_28 (by decide) (by decide)
  · rw [if_pos c4] at E
    refine r_iconst X (v := 2) dX3_faultOfFetch_10 (by decide) ?_
    cases E
    exact r_iret X hr dX3_faultOfFetch_11 (by decide) (by decide)
theorem t_x3_faultOfFetch {l : Launch} {G : GG} {p : Nat} {b0 : Int32} {g : AH} {r : Int32} {g1 : AH} (E : x3_faultOfFetch p b0 g = some (r, g1)) : Ct l G yX3_faultOfFetch cX3_faultOfFetch 2 (some .int) ⟨2, 0, 0, 82⟩ [.ref p, .int b0] g (some (.int r)) g1 :=
  ct_of (L0 := [(0, .ref p), (1, .int b0)]) y_X3_faultOfFetch rfl (Nat.le_of_ble_eq_true rfl) fun M hl0 X hr hnm => t_x3_faultOfFetch_b X hl0 hr hnm E
set_option maxHeartbeats 4000000 in
set_option maxRecDepth 100000 in
theorem t_x3_faultOfPay_j53 {l : Launch} {G : GG} {M : MC} (X : CX M G cX3_faultOfPay 4 RX3 ⟨2, 0, 0, 82⟩) (hl0 : M.2.1 = l) (hr : (mM M).sig.returnType = (some .int)) (hnm : (mM M).name = yX3_faultOfPay.name) {s0 : Int32} {g : AH} {r : Int32} {g1 : AH} (E : x3_faultOfPay_j53 s0 g = some (r, g1)) : WW M G 4 (RQ M G (some (.int r)) g1 0 0) 0 0 g 53 [] [.int s0] := by
  unfold x3_faultOfPay_j53 at E
  refine r_istore_n X 3 (L1 := [(3, .int s0)]) dX3_faultOfPay_53 rfl (by decide) rfl ?_
  refine r_iload_n X 3 dX3_faultOfPay_54 rfl rfl ?_
  refine r_if_eq X 62 dX3_faultOfPay_55 (by decide) (fun c1 => ?_) (fun c1 => ?_)
  · rw [if_pos c1] at E
    refine r_iconst X (v := 0) dX3_faultOfPay_62 (by decide) ?_
    cases E
    exact r_iret X hr dX3_faultOfPay_63 (by decide) (by decide)
  · rw [if_neg c1] at E
    refine r_iconst X (v := 3) dX3_faultOfPay_58 (by decide) ?_
    refine r_goto X 63 dX3_faultOfPay_59 (by decide) ?_
    cases E
    exact r_iret X hr dX3_faultOfPay_63 (by decide) (by decide)
set_option maxHeartbeats 4000000 in
set_option maxRecDepth 100000 in
theorem t_x3_faultOfPay_j48 {l : Launch} {G : GG} {M : MC} (X : CX M G cX3_faultOfPay 4 RX3 ⟨2, 0, 0, 82⟩) (hl0 : M.2.1 = l) (hr : (mM M).sig.returnType = (some .int)) (hnm : (mM M).name = yX3_faultOfPay.name)  {g : AH} {r : Int32} {g1 : AH} (E : x3_faultOfPay_j48  g = some (r, g1)) : WW M G 4 (RQ M G (some (.int r)) g1 0 0) 0 0 g 48 [] [] := by
  unfold x3_faultOfPay_j48 at E
  refine r_iconst X (v := 1) dX3_faultOfPay_48 (by decide) ?_
  refine r_goto X 53 dX3_faultOfPay_49 (by decide) ?_
  exact r_pick (by rfl : lpick [] [] = _) (t_x3_faultOfPay_j53 X hl0 hr hnm E)
set_option maxHeartbeats 4000000 in
set_option maxRecDepth 100000 in
theorem t_x3_faultOfPay_b {l : Launch} {G : GG} {M : MC} (X : CX M G cX3_faultOfPay 4 RX3 ⟨2, 0, 0, 82⟩) (hl0 : M.2.1 = l) (hr : (mM M).sig.returnType = (some .int)) (hnm : (mM M).name = yX3_faultOfPay.name) {p : Nat} {b0 : Int32} {b1 : Int32} {g : AH} {r : Int32} {g1 : AH} (E : x3_faultOfPay p b0 b1 g = some (r, g1)) : WW M G 4 (RQ M G (some (.int r)) g1 0 0) 0 0 g 0 [(0, .ref p), (1, .int b0), (2, .int b1)] [] := by
  unfold x3_faultOfPay at E
  refine r_aload_n X 0 dX3_faultOfPay_0 rfl rfl ?_
  refine r_iload_n X 1 dX3_faultOfPay_1 rfl rfl ?_
  obtain ⟨u4, e5, E⟩ := gb_some E
  obtain ⟨r1, g2, e3, E⟩ := cb_some E
  refine r_callV0 X hl0 (ci := 3) dX3_faultOfPay_2 y_X3_hasHiker m_X3_248 rfl rfl e5 (t_x3_hasHiker (l := l) (G := G) e3) rfl rfl (Nat.le_of_ble_eq_true rfl) (by decide) ?_
  refine r_if_ne X 10 dX3_faultOfPay_5 (by decide) (fun c6 => ?_) (fun c6 => ?_)
  · rw [if_neg c6] at E
    refine r_iload_n X 2 dX3_faultOfPay_10 rfl rfl ?_
    refine r_iconst X (v := 1) dX3_faultOfPay_11 (by decide) ?_
    refine r_bipush X (v := 99) dX3_faultOfPay_12 (by decide) ?_
    obtain ⟨r7, g8, e9, E⟩ := cb_some E
    refine r_callSN0 X hl0 dX3_faultOfPay_14 y_X8_isWithin (List.mem_of_getElem? (i := 9) rfl) (t_x8_isWithin (l := l) (G := G) e9) rfl rfl (Nat.le_of_ble_eq_true rfl) (by decide) ?_
    refine r_if_ne X 22 dX3_faultOfPay_17 (by decide) (fun c10 => ?_) (fun c10 => ?_)
    · rw [if_neg c10] at E
      refine r_aload_n X 0 dX3_faultOfPay_22 rfl rfl ?_
      obtain ⟨x11, e12, E⟩ := gb_some E
      refine r_getR X dX3_faultOfPay_23 f_X3_29 e12 ?_
      refine r_iload_n X 1 dX3_faultOfPay_26 rfl rfl ?_
      obtain ⟨x13, e14, E⟩ := gb_some E
      refine r_aald X 4 (by decide) rfl dX3_faultOfPay_27 e14 ?_
      obtain ⟨x15, e16, E⟩ := gb_some E
      refine r_getI X dX3_faultOfPay_28 f_X3_188 e16 ?_
      refine r_iload_n X 2 dX3_faultOfPay_31 rfl rfl ?_
      refine r_icmp_lt X 48 dX3_faultOfPay_32 (by decide) (fun c17 => ?_) (fun c17 => ?_)
      · rw [if_pos c17] at E
        exact r_pick (by rfl : lpick [(0, .ref p), (1, .int b0), (2, .int b1)] [] = _) (t_x3_faultOfPay_j48 X hl0 hr hnm E)
      · rw [if_neg c17] at E
        refine r_aload_n X 0 dX3_faultOfPay_35 rfl rfl ?_
        obtain ⟨x18, e19, E⟩ := gb_some E
        refine r_getR X dX3_faultOfPay_36 f_X3_29 e19 ?_
        refine r_iload_n X 1 dX3_faultOfPay_39 rfl rfl ?_
        obtain ⟨x20, e21, E⟩ := gb_some E
        refine r_aald X 4 (by decide) rfl dX3_faultOfPay_40 e21 ?_
        obtain ⟨x22, e23, E⟩ := gb_some E
        refine r_getI X dX3_faultOfPay_41 f_X3_191 e23 ?_
        refine r_iload_n X 2 dX3_faultOfPay_44 rfl rfl ?_
        refine r_icmp_ge X 52 dX3_faultOfPay_45 (by decide) (fun c24 => ?_) (fun c24 => ?_)
        · rw [if_pos c24] at E
          refine r_iconst X (v := 0) dX3_faultOfPay_52 (by decide) ?_
          exact r_pick (by rfl : lpick [(0, .ref p), (1, .int b0), (2, .int b1)] [] = _) (t_x3_faultOfPay_j53 X hl0 hr hnm E)
        · rw [if_neg c24] at E
          exact r_pick (by rfl : lpick [(0, .ref p), (1, .int b0), (2, .int b1)] [] = _) (t_x3_faultOfPay_j48 X hl0 hr hnm E)
    · rw [if_pos c10] at E
      refine r_iconst X (v := 2) dX3_faultOfPay_20 (by decide) ?_
      cases E
      exact r_iret X hr dX3_faultOfPay_21 (by decide) (by decide)
  · rw [if_pos c6] at E
    refine r_iconst X (v := 1) dX3_faultOfPay_8 (by decide) ?_
    cases E
    exact r_iret X hr dX3_faultOfPay_9 (by decide) (by decide)
theorem t_x3_faultOfPay {l : Launch} {G : GG} {p : Nat} {b0 : Int32} {b1 : Int32} {g : AH} {r : Int32} {g1 : AH} (E : x3_faultOfPay p b0 b1 g = some (r, g1)) : Ct l G yX3_faultOfPay cX3_faultOfPay 4 (some .int) ⟨2, 0, 0, 82⟩ [.ref p, .int b0, .int b1] g (some (.int r)) g1 :=
  ct_of (L0 := [(0, .ref p), (1, .int b0), (2, .int b1)]) y_X3_faultOfPay rfl (Nat.le_of_ble_eq_true rfl) fun M hl0 X hr hnm => t_x3_faultOfPay_b X hl0 hr hnm E
set_option maxHeartbeats 4000000 in
set_option maxRecDepth 100000 in
theorem t_x3_faultOfPass_b {l : Launch} {G : GG} {M : MC} (X : CX M G cX3_faultOfPass 2 RX3 ⟨2, 0, 0, 82⟩) (hl0 : M.2.1 = l) (hr : (mM M).sig.returnType = (some .int)) (hnm : (mM M).name = yX3_faultOfPass.name) {p : Nat} {b0 : Int32} {g : AH} {r : Int32} {g1 : AH} (E : x3_faultOfPass p b0 g = some (r, g1)) : WW M G 2 (RQ M G (some (.int r)) g1 0 0) 0 0 g 0 [(0, .ref p), (1, .int b0)] [] := by
  unfold x3_faultOfPass at E
  refine r_iload_n X 1 dX3_faultOfPass_0 rfl rfl ?_
  refine r_iconst X (v := 1) dX3_faultOfPass_1 (by decide) ?_
  refine r_bipush X (v := 48) dX3_faultOfPass_2 (by decide) ?_
  obtain ⟨r1, g2, e3, E⟩ := cb_some E
  refine r_callSN0 X hl0 dX3_faultOfPass_4 y_X8_isWithin (List.mem_of_getElem? (i := 9) rfl) (t_x8_isWithin (l := l) (G := G) e3) rfl rfl (Nat.le_of_ble_eq_true rfl) (by decide) ?_
  refine r_if_ne X 12 dX3_faultOfPass_7 (by decide) (fun c4 => ?_) (fun c4 => ?_)
  · rw [if_neg c4] at E
    refine r_aload_n X 0 dX3_faultOfPass_12 rfl rfl ?_
    obtain ⟨x5, e6, E⟩ := gb_some E
    refine r_getI X dX3_faultOfPass_13 f_X3_51 e6 ?_
    refine r_iload_n X 1 dX3_faultOfPass_16 rfl rfl ?_
    refine r_iadd X dX3_faultOfPass_17 ?_
    refine r_sipush X (v := 9999) dX3_faultOfPass_18 (by decide) ?_
    refine r_icmp_le X 28 dX3_faultOfPass_21 (by decide) (fun c7 => ?_) (fun c7 => ?_)
    · rw [if_pos c7] at E
      refine r_iconst X (v := 0) dX3_faultOfPass_28 (by decide) ?_
      cases E
      exact r_iret X hr dX3_faultOfPass_29 (by decide) (by decide)
    · rw [if_neg c7] at E
      refine r_iconst X (v := 3) dX3_faultOfPass_24 (by decide) ?_
      refine r_goto X 29 dX3_faultOfPass_25 (by decide) ?_
      cases E
      exact r_iret X hr dX3_faultOfPass_29 (by decide) (by decide)
  · rw [if_pos c4] at E
    refine r_iconst X (v := 2) dX3_faultOfPass_10 (by decide) ?_
    cases E
    exact r_iret X hr dX3_faultOfPass_11 (by decide) (by decide)
theorem t_x3_faultOfPass {l : Launch} {G : GG} {p : Nat} {b0 : Int32} {g : AH} {r : Int32} {g1 : AH} (E : x3_faultOfPass p b0 g = some (r, g1)) : Ct l G yX3_faultOfPass cX3_faultOfPass 2 (some .int) ⟨2, 0, 0, 82⟩ [.ref p, .int b0] g (some (.int r)) g1 :=
  ct_of (L0 := [(0, .ref p), (1, .int b0)]) y_X3_faultOfPass rfl (Nat.le_of_ble_eq_true rfl) fun M hl0 X hr hnm => t_x3_faultOfPass_b X hl0 hr hnm E
set_option maxHeartbeats 4000000 in
set_option maxRecDepth 100000 in
theorem t_x3_faultOf_b {l : Launch} {G : GG} {M : MC} (X : CX M G cX3_faultOf 4 RX3 ⟨4, 0, 0, 124⟩) (hl0 : M.2.1 = l) (hr : (mM M).sig.returnType = (some .int)) (hnm : (mM M).name = yX3_faultOf.name) {p : Nat} {b0 : Int32} {b1 : Int32} {b2 : Int32} {g : AH} {r : Int32} {g1 : AH} (E : x3_faultOf p b0 b1 b2 g = some (r, g1)) : WW M G 4 (RQ M G (some (.int r)) g1 0 0) 0 0 g 0 [(0, .ref p), (1, .int b0), (2, .int b1), (3, .int b2)] [] := by
  unfold x3_faultOf at E
  refine r_iload_n X 1 dX3_faultOf_0 rfl rfl ?_
  by_cases c1 : b0 = 0
  · rw [if_pos c1] at E
    refine r_tswI X 0 48 dX3_faultOf_1 c1 (by decide) (by decide) rfl (by decide) ?_
    refine r_aload_n X 0 dX3_faultOf_48 rfl rfl ?_
    refine r_iload_n X 2 dX3_faultOf_49 rfl rfl ?_
    refine r_iload_n X 3 dX3_faultOf_50 rfl rfl ?_
    obtain ⟨u5, e6, E⟩ := gb_some E
    obtain ⟨r2, g3, e4, E⟩ := cb_some E
    refine r_callV0 X hl0 (ci := 3) dX3_faultOf_51 y_X3_faultOfTake m_X3_224 rfl rfl e6 (t_x3_faultOfTake (l := l) (G := G) e4) rfl rfl (Nat.le_of_ble_eq_true rfl) (by decide) ?_
    cases E
    exact r_iret X hr dX3_faultOf_54 (by decide) (by decide)
  rw [if_neg c1] at E
  by_cases c7 : b0 = 1
  · rw [if_pos c7] at E
    refine r_tswI X 1 55 dX3_faultOf_1 c7 (by decide) (by decide) rfl (by decide) ?_
    refine r_aload_n X 0 dX3_faultOf_55 rfl rfl ?_
    refine r_iload_n X 2 dX3_faultOf_56 rfl rfl ?_
    obtain ⟨u11, e12, E⟩ := gb_some E
    obtain ⟨r8, g9, e10, E⟩ := cb_some E
    refine r_callV0 X hl0 (ci := 3) dX3_faultOf_57 y_X3_faultOfReturn m_X3_227 rfl rfl e12 (t_x3_faultOfReturn (l := l) (G := G) e10) rfl rfl (Nat.le_of_ble_eq_true rfl) (by decide) ?_
    cases E
    exact r_iret X hr dX3_faultOf_60 (by decide) (by decide)
  rw [if_neg c7] at E
  by_cases c13 : b0 = 2
  · rw [if_pos c13] at E
    refine r_tswI X 2 61 dX3_faultOf_1 c13 (by decide) (by decide) rfl (by decide) ?_
    refine r_aload_n X 0 dX3_faultOf_61 rfl rfl ?_
    refine r_iload_n X 2 dX3_faultOf_62 rfl rfl ?_
    refine r_iload_n X 3 dX3_faultOf_63 rfl rfl ?_
    obtain ⟨u17, e18, E⟩ := gb_some E
    obtain ⟨r14, g15, e16, E⟩ := cb_some E
    refine r_callV0 X hl0 (ci := 3) dX3_faultOf_64 y_X3_faultOfSwap m_X3_230 rfl rfl e18 (t_x3_faultOfSwap (l := l) (G := G) e16) rfl rfl (Nat.le_of_ble_eq_true rfl) (by decide) ?_
    cases E
    exact r_iret X hr dX3_faultOf_67 (by decide) (by decide)
  rw [if_neg c13] at E
  by_cases c19 : b0 = 3
  · rw [if_pos c19] at E
    refine r_tswI X 3 68 dX3_faultOf_1 c19 (by decide) (by decide) rfl (by decide) ?_
    refine r_aload_n X 0 dX3_faultOf_68 rfl rfl ?_
    refine r_iload_n X 2 dX3_faultOf_69 rfl rfl ?_
    refine r_iload_n X 3 dX3_faultOf_70 rfl rfl ?_
    obtain ⟨u23, e24, E⟩ := gb_some E
    obtain ⟨r20, g21, e22, E⟩ := cb_some E
    refine r_callV0 X hl0 (ci := 3) dX3_faultOf_71 y_X3_faultOfLie m_X3_233 rfl rfl e24 (t_x3_faultOfLie (l := l) (G := G) e22) rfl rfl (Nat.le_of_ble_eq_true rfl) (by decide) ?_
    cases E
    exact r_iret X hr dX3_faultOf_74 (by decide) (by decide)
  rw [if_neg c19] at E
  by_cases c25 : b0 = 4
  · rw [if_pos c25] at E
    refine r_tswI X 4 75 dX3_faultOf_1 c25 (by decide) (by decide) rfl (by decide) ?_
    refine r_aload_n X 0 dX3_faultOf_75 rfl rfl ?_
    refine r_iload_n X 2 dX3_faultOf_76 rfl rfl ?_
    obtain ⟨u29, e30, E⟩ := gb_some E
    obtain ⟨r26, g27, e28, E⟩ := cb_some E
    refine r_callV0 X hl0 (ci := 3) dX3_faultOf_77 y_X3_faultOfRise m_X3_236 rfl rfl e30 (t_x3_faultOfRise (l := l) (G := G) e28) rfl rfl (Nat.le_of_ble_eq_true rfl) (by decide) ?_
    cases E
    exact r_iret X hr dX3_faultOf_80 (by decide) (by decide)
  rw [if_neg c25] at E
  by_cases c31 : b0 = 5
  · rw [if_pos c31] at E
    refine r_tswI X 5 81 dX3_faultOf_1 c31 (by decide) (by decide) rfl (by decide) ?_
    refine r_iload_n X 2 dX3_faultOf_81 rfl rfl ?_
    refine r_iconst X (v := 0) dX3_faultOf_82 (by decide) ?_
    refine r_iconst X (v := 3) dX3_faultOf_83 (by decide) ?_
    obtain ⟨r32, g33, e34, E⟩ := cb_some E
    refine r_callSN0 X hl0 dX3_faultOf_84 y_X8_isWithin (List.mem_of_getElem? (i := 9) rfl) (t_x8_isWithin (l := l) (G := G) e34) rfl rfl (Nat.le_of_ble_eq_true rfl) (by decide) ?_
    refine r_if_eq X 94 dX3_faultOf_87 (by decide) (fun c35 => ?_) (fun c35 => ?_)
    · rw [if_pos c35] at E
      refine r_iconst X (v := 2) dX3_faultOf_94 (by decide) ?_
      cases E
      exact r_iret X hr dX3_faultOf_95 (by decide) (by decide)
    · rw [if_neg c35] at E
      refine r_iconst X (v := 0) dX3_faultOf_90 (by decide) ?_
      refine r_goto X 95 dX3_faultOf_91 (by decide) ?_
      cases E
      exact r_iret X hr dX3_faultOf_95 (by decide) (by decide)
  rw [if_neg c31] at E
  by_cases c36 : b0 = 6
  · rw [if_pos c36] at E
    refine r_tswI X 6 96 dX3_faultOf_1 c36 (by decide) (by decide) rfl (by decide) ?_
    refine r_aload_n X 0 dX3_faultOf_96 rfl rfl ?_
    refine r_iload_n X 2 dX3_faultOf_97 rfl rfl ?_
    obtain ⟨u40, e41, E⟩ := gb_some E
    obtain ⟨r37, g38, e39, E⟩ := cb_some E
    refine r_callV0 X hl0 (ci := 3) dX3_faultOf_98 y_X3_faultOfFetch m_X3_239 rfl rfl e41 (t_x3_faultOfFetch (l := l) (G := G) e39) rfl rfl (Nat.le_of_ble_eq_true rfl) (by decide) ?_
    cases E
    exact r_iret X hr dX3_faultOf_101 (by decide) (by decide)
  rw [if_neg c36] at E
  by_cases c42 : b0 = 7
  · rw [if_pos c42] at E
    refine r_tswI X 7 102 dX3_faultOf_1 c42 (by decide) (by decide) rfl (by decide) ?_
    refine r_aload_n X 0 dX3_faultOf_102 rfl rfl ?_
    refine r_iload_n X 2 dX3_faultOf_103 rfl rfl ?_
    refine r_iload_n X 3 dX3_faultOf_104 rfl rfl ?_
    obtain ⟨u46, e47, E⟩ := gb_some E
    obtain ⟨r43, g44, e45, E⟩ := cb_some E
    refine r_callV0 X hl0 (ci := 3) dX3_faultOf_105 y_X3_faultOfPay m_X3_242 rfl rfl e47 (t_x3_faultOfPay (l := l) (G := G) e45) rfl rfl (Nat.le_of_ble_eq_true rfl) (by decide) ?_
    cases E
    exact r_iret X hr dX3_faultOf_108 (by decide) (by decide)
  rw [if_neg c42] at E
  refine r_tswD X 109 dX3_faultOf_1 (tsw_out (fun k h1 h2 => by
    rcases (by omega : k = 0 ∨ k = 1 ∨ k = 2 ∨ k = 3 ∨ k = 4 ∨ k = 5 ∨ k = 6 ∨ k = 7) with rfl | rfl | rfl | rfl | rfl | rfl | rfl | rfl
    · exact c1
    · exact c7
    · exact c13
    · exact c19
    · exact c25
    · exact c31
    · exact c36
    · exact c42
    )) (by decide) ?_
  refine r_aload_n X 0 dX3_faultOf_109 rfl rfl ?_
  refine r_iload_n X 2 dX3_faultOf_110 rfl rfl ?_
  obtain ⟨u51, e52, E⟩ := gb_some E
  obtain ⟨r48, g49, e50, E⟩ := cb_some E
  refine r_callV0 X hl0 (ci := 3) dX3_faultOf_111 y_X3_faultOfPass m_X3_245 rfl rfl e52 (t_x3_faultOfPass (l := l) (G := G) e50) rfl rfl (Nat.le_of_ble_eq_true rfl) (by decide) ?_
  cases E
  exact r_iret X hr dX3_faultOf_114 (by decide) (by decide)
theorem t_x3_faultOf {l : Launch} {G : GG} {p : Nat} {b0 : Int32} {b1 : Int32} {b2 : Int32} {g : AH} {r : Int32} {g1 : AH} (E : x3_faultOf p b0 b1 b2 g = some (r, g1)) : Ct l G yX3_faultOf cX3_faultOf 4 (some .int) ⟨4, 0, 0, 124⟩ [.ref p, .int b0, .int b1, .int b2] g (some (.int r)) g1 :=
  ct_of (L0 := [(0, .ref p), (1, .int b0), (2, .int b1), (3, .int b2)]) y_X3_faultOf rfl (Nat.le_of_ble_eq_true rfl) fun M hl0 X hr hnm => t_x3_faultOf_b X hl0 hr hnm E
set_option maxHeartbeats 4000000 in
set_option maxRecDepth 100000 in
theorem t_x2_keep_b {l : Launch} {G : GG} {M : MC} (X : CX M G cX2_keep 2 RX2 ⟨4, 0, 0, 193⟩) (hl0 : M.2.1 = l) (hr : (mM M).sig.returnType = none) (hnm : (mM M).name = yX2_keep.name) {p : Nat} {b0 : Nat} {g : AH} {r : Unit} {g1 : AH} (E : x2_keep p b0 g = some (r, g1)) : WW M G 2 (RQ M G none g1 0 0) 0 0 g 0 [(0, .ref p), (1, .ref b0)] [] := by
  unfold x2_keep at E
  refine r_aload_n X 0 dX2_keep_0 rfl rfl ?_
  obtain ⟨x1, e2, E⟩ := gb_some E
  refine r_getR X dX2_keep_1 f_X2_13 e2 ?_
  refine r_aload_n X 0 dX2_keep_4 rfl rfl ?_
  obtain ⟨x3, e4, E⟩ := gb_some E
  refine r_getI X dX2_keep_5 f_X2_19 e4 ?_
  obtain ⟨x5, e6, E⟩ := gb_some E
  refine r_aald X 5 (by decide) rfl dX2_keep_8 e6 ?_
  refine r_aload_n X 1 dX2_keep_9 rfl rfl ?_
  obtain ⟨u10, e11, E⟩ := gb_some E
  obtain ⟨r7, g8, e9, E⟩ := cb_some E
  refine r_callV0 X hl0 (ci := 3) dX2_keep_10 y_X3_copyFrom m_X2_23 rfl rfl e11 (t_x3_copyFrom (l := l) (G := G) e9) rfl rfl (Nat.le_of_ble_eq_true rfl) (by decide) ?_
  refine r_aload_n X 0 dX2_keep_13 rfl rfl ?_
  refine r_aload_n X 0 dX2_keep_14 rfl rfl ?_
  obtain ⟨x12, e13, E⟩ := gb_some E
  refine r_getI X dX2_keep_15 f_X2_19 e13 ?_
  refine r_iconst X (v := 1) dX2_keep_18 (by decide) ?_
  refine r_iadd X dX2_keep_19 ?_
  refine r_bipush X (v := 6) dX2_keep_20 (by decide) ?_
  refine r_irem X dX2_keep_22 (by decide) ?_
  obtain ⟨g15, e16, E⟩ := gb_some E
  refine r_put X dX2_keep_23 f_X2_19 rfl rfl e16 ?_
  refine r_aload_n X 0 dX2_keep_26 rfl rfl ?_
  refine r_aload_n X 0 dX2_keep_27 rfl rfl ?_
  obtain ⟨x17, e18, E⟩ := gb_some E
  refine r_getI X dX2_keep_28 f_X2_29 e18 ?_
  refine r_iconst X (v := 1) dX2_keep_31 (by decide) ?_
  refine r_iadd X dX2_keep_32 ?_
  refine r_bipush X (v := 6) dX2_keep_33 (by decide) ?_
  refine r_min X dX2_keep_35 m_X2_32m (by decide) (Nat.le_of_ble_eq_true rfl) ?_
  obtain ⟨g19, e20, E⟩ := gb_some E
  refine r_put X dX2_keep_38 f_X2_29 rfl rfl e20 ?_
  cases E
  exact r_vret X hr dX2_keep_41 (by decide) (by decide)
theorem t_x2_keep {l : Launch} {G : GG} {p : Nat} {b0 : Nat} {g : AH} {r : Unit} {g1 : AH} (E : x2_keep p b0 g = some (r, g1)) : Ct l G yX2_keep cX2_keep 2 none ⟨4, 0, 0, 193⟩ [.ref p, .ref b0] g none g1 :=
  ct_of (L0 := [(0, .ref p), (1, .ref b0)]) y_X2_keep rfl (Nat.le_of_ble_eq_true rfl) fun M hl0 X hr hnm => t_x2_keep_b X hl0 hr hnm E
set_option maxHeartbeats 4000000 in
set_option maxRecDepth 100000 in
theorem t_x3_giveBlanket_b {l : Launch} {G : GG} {M : MC} (X : CX M G cX3_giveBlanket 4 RX3 ⟨4, 0, 0, 128⟩) (hl0 : M.2.1 = l) (hr : (mM M).sig.returnType = (some .int)) (hnm : (mM M).name = yX3_giveBlanket.name) {p : Nat} {b0 : Int32} {b1 : Int32} {g : AH} {r : Int32} {g1 : AH} (E : x3_giveBlanket p b0 b1 g = some (r, g1)) : WW M G 4 (RQ M G (some (.int r)) g1 0 0) 0 0 g 0 [(0, .ref p), (1, .int b0), (2, .int b1)] [] := by
  unfold x3_giveBlanket at E
  refine r_aload_n X 0 dX3_giveBlanket_0 rfl rfl ?_
  obtain ⟨x1, e2, E⟩ := gb_some E
  refine r_getR X dX3_giveBlanket_1 f_X3_29 e2 ?_
  refine r_iload_n X 1 dX3_giveBlanket_4 rfl rfl ?_
  obtain ⟨x3, e4, E⟩ := gb_some E
  refine r_aald X 4 (by decide) rfl dX3_giveBlanket_5 e4 ?_
  obtain ⟨x5, e6, E⟩ := gb_some E
  refine r_getI X dX3_giveBlanket_6 f_X3_94 e6 ?_
  refine r_istore_n X 3 (L1 := [(3, .int x5), (0, .ref p), (1, .int b0), (2, .int b1)]) dX3_giveBlanket_9 rfl (by decide) rfl ?_
  refine r_aload_n X 0 dX3_giveBlanket_10 rfl rfl ?_
  obtain ⟨x7, e8, E⟩ := gb_some E
  refine r_getR X dX3_giveBlanket_11 f_X3_29 e8 ?_
  refine r_iload_n X 1 dX3_giveBlanket_14 rfl rfl ?_
  obtain ⟨x9, e10, E⟩ := gb_some E
  refine r_aald X 4 (by decide) rfl dX3_giveBlanket_15 e10 ?_
  refine r_iload_n X 2 dX3_giveBlanket_16 rfl rfl ?_
  obtain ⟨g11, e12, E⟩ := gb_some E
  refine r_put X dX3_giveBlanket_17 f_X3_94 rfl rfl e12 ?_
  refine r_aload_n X 0 dX3_giveBlanket_20 rfl rfl ?_
  obtain ⟨u16, e17, E⟩ := gb_some E
  obtain ⟨r13, g14, e15, E⟩ := cb_some E
  refine r_callV0 X hl0 (ci := 3) dX3_giveBlanket_21 y_X3_measure m_X3_48 rfl rfl e17 (t_x3_measure (l := l) (G := G) e15) rfl rfl (Nat.le_of_ble_eq_true rfl) (by decide) ?_
  refine r_iload_n X 3 dX3_giveBlanket_24 rfl rfl ?_
  cases E
  exact r_iret X hr dX3_giveBlanket_25 (by decide) (by decide)
theorem t_x3_giveBlanket {l : Launch} {G : GG} {p : Nat} {b0 : Int32} {b1 : Int32} {g : AH} {r : Int32} {g1 : AH} (E : x3_giveBlanket p b0 b1 g = some (r, g1)) : Ct l G yX3_giveBlanket cX3_giveBlanket 4 (some .int) ⟨4, 0, 0, 128⟩ [.ref p, .int b0, .int b1] g (some (.int r)) g1 :=
  ct_of (L0 := [(0, .ref p), (1, .int b0), (2, .int b1)]) y_X3_giveBlanket rfl (Nat.le_of_ble_eq_true rfl) fun M hl0 X hr hnm => t_x3_giveBlanket_b X hl0 hr hnm E
set_option maxHeartbeats 4000000 in
set_option maxRecDepth 100000 in
theorem t_x3_exchangeBlankets_b {l : Launch} {G : GG} {M : MC} (X : CX M G cX3_exchangeBlankets 4 RX3 ⟨4, 0, 0, 128⟩) (hl0 : M.2.1 = l) (hr : (mM M).sig.returnType = none) (hnm : (mM M).name = yX3_exchangeBlankets.name) {p : Nat} {b0 : Int32} {b1 : Int32} {g : AH} {r : Unit} {g1 : AH} (E : x3_exchangeBlankets p b0 b1 g = some (r, g1)) : WW M G 4 (RQ M G none g1 0 0) 0 0 g 0 [(0, .ref p), (1, .int b0), (2, .int b1)] [] := by
  unfold x3_exchangeBlankets at E
  refine r_aload_n X 0 dX3_exchangeBlankets_0 rfl rfl ?_
  obtain ⟨x1, e2, E⟩ := gb_some E
  refine r_getR X dX3_exchangeBlankets_1 f_X3_29 e2 ?_
  refine r_iload_n X 1 dX3_exchangeBlankets_4 rfl rfl ?_
  obtain ⟨x3, e4, E⟩ := gb_some E
  refine r_aald X 4 (by decide) rfl dX3_exchangeBlankets_5 e4 ?_
  obtain ⟨x5, e6, E⟩ := gb_some E
  refine r_getI X dX3_exchangeBlankets_6 f_X3_94 e6 ?_
  refine r_istore_n X 3 (L1 := [(3, .int x5), (0, .ref p), (1, .int b0), (2, .int b1)]) dX3_exchangeBlankets_9 rfl (by decide) rfl ?_
  refine r_aload_n X 0 dX3_exchangeBlankets_10 rfl rfl ?_
  obtain ⟨x7, e8, E⟩ := gb_some E
  refine r_getR X dX3_exchangeBlankets_11 f_X3_29 e8 ?_
  refine r_iload_n X 1 dX3_exchangeBlankets_14 rfl rfl ?_
  obtain ⟨x9, e10, E⟩ := gb_some E
  refine r_aald X 4 (by decide) rfl dX3_exchangeBlankets_15 e10 ?_
  refine r_aload_n X 0 dX3_exchangeBlankets_16 rfl rfl ?_
  obtain ⟨x11, e12, E⟩ := gb_some E
  refine r_getR X dX3_exchangeBlankets_17 f_X3_29 e12 ?_
  refine r_iload_n X 2 dX3_exchangeBlankets_20 rfl rfl ?_
  obtain ⟨x13, e14, E⟩ := gb_some E
  refine r_aald X 4 (by decide) rfl dX3_exchangeBlankets_21 e14 ?_
  obtain ⟨x15, e16, E⟩ := gb_some E
  refine r_getI X dX3_exchangeBlankets_22 f_X3_94 e16 ?_
  obtain ⟨g17, e18, E⟩ := gb_some E
  refine r_put X dX3_exchangeBlankets_25 f_X3_94 rfl rfl e18 ?_
  refine r_aload_n X 0 dX3_exchangeBlankets_28 rfl rfl ?_
  obtain ⟨x19, e20, E⟩ := gb_some E
  refine r_getR X dX3_exchangeBlankets_29 f_X3_29 e20 ?_
  refine r_iload_n X 2 dX3_exchangeBlankets_32 rfl rfl ?_
  obtain ⟨x21, e22, E⟩ := gb_some E
  refine r_aald X 4 (by decide) rfl dX3_exchangeBlankets_33 e22 ?_
  refine r_iload_n X 3 dX3_exchangeBlankets_34 rfl rfl ?_
  obtain ⟨g23, e24, E⟩ := gb_some E
  refine r_put X dX3_exchangeBlankets_35 f_X3_94 rfl rfl e24 ?_
  refine r_aload_n X 0 dX3_exchangeBlankets_38 rfl rfl ?_
  obtain ⟨u28, e29, E⟩ := gb_some E
  obtain ⟨r25, g26, e27, E⟩ := cb_some E
  refine r_callV0 X hl0 (ci := 3) dX3_exchangeBlankets_39 y_X3_measure m_X3_48 rfl rfl e29 (t_x3_measure (l := l) (G := G) e27) rfl rfl (Nat.le_of_ble_eq_true rfl) (by decide) ?_
  cases E
  exact r_vret X hr dX3_exchangeBlankets_42 (by decide) (by decide)
theorem t_x3_exchangeBlankets {l : Launch} {G : GG} {p : Nat} {b0 : Int32} {b1 : Int32} {g : AH} {r : Unit} {g1 : AH} (E : x3_exchangeBlankets p b0 b1 g = some (r, g1)) : Ct l G yX3_exchangeBlankets cX3_exchangeBlankets 4 none ⟨4, 0, 0, 128⟩ [.ref p, .int b0, .int b1] g none g1 :=
  ct_of (L0 := [(0, .ref p), (1, .int b0), (2, .int b1)]) y_X3_exchangeBlankets rfl (Nat.le_of_ble_eq_true rfl) fun M hl0 X hr hnm => t_x3_exchangeBlankets_b X hl0 hr hnm E
set_option maxHeartbeats 4000000 in
set_option maxRecDepth 100000 in
theorem t_x3_noiseAt_b {l : Launch} {G : GG} {M : MC} (X : CX M G cX3_noiseAt 5 RX3 ⟨1, 0, 0, 60⟩) (hl0 : M.2.1 = l) (hr : (mM M).sig.returnType = (some .int)) (hnm : (mM M).name = yX3_noiseAt.name) {p : Nat} {b0 : Int32} {g : AH} {r : Int32} {g1 : AH} (E : x3_noiseAt p b0 g = some (r, g1)) : WW M G 5 (RQ M G (some (.int r)) g1 0 0) 0 0 g 0 [(0, .ref p), (1, .int b0)] [] := by
  unfold x3_noiseAt at E
  refine r_iload_n X 1 dX3_noiseAt_0 rfl rfl ?_
  refine r_if_lt X 12 dX3_noiseAt_1 (by decide) (fun c1 => ?_) (fun c1 => ?_)
  · rw [if_pos c1] at E
    refine r_iconst X (v := 0) dX3_noiseAt_12 (by decide) ?_
    cases E
    exact r_iret X hr dX3_noiseAt_13 (by decide) (by decide)
  · rw [if_neg c1] at E
    refine r_iload_n X 1 dX3_noiseAt_4 rfl rfl ?_
    refine r_aload_n X 0 dX3_noiseAt_5 rfl rfl ?_
    obtain ⟨x2, e3, E⟩ := gb_some E
    refine r_getI X dX3_noiseAt_6 f_X3_69 e3 ?_
    refine r_icmp_lt X 14 dX3_noiseAt_9 (by decide) (fun c4 => ?_) (fun c4 => ?_)
    · rw [if_pos c4] at E
      refine r_iload_n X 1 dX3_noiseAt_14 rfl rfl ?_
      refine r_iconst X (v := 2) dX3_noiseAt_15 (by decide) ?_
      refine r_iadd X dX3_noiseAt_16 ?_
      refine r_istore_n X 2 (L1 := [(2, .int (b0 + 2)), (0, .ref p), (1, .int b0)]) dX3_noiseAt_17 rfl (by decide) rfl ?_
      refine r_aload_n X 0 dX3_noiseAt_18 rfl rfl ?_
      obtain ⟨x5, e6, E⟩ := gb_some E
      refine r_getR X dX3_noiseAt_19 f_X3_24 e6 ?_
      refine r_iload_n X 2 dX3_noiseAt_22 rfl rfl ?_
      refine r_iconst X (v := 1) dX3_noiseAt_23 (by decide) ?_
      refine r_isub X dX3_noiseAt_24 ?_
      obtain ⟨x7, e8, E⟩ := gb_some E
      refine r_iald X dX3_noiseAt_25 e8 ?_
      refine r_aload_n X 0 dX3_noiseAt_26 rfl rfl ?_
      obtain ⟨x9, e10, E⟩ := gb_some E
      refine r_getR X dX3_noiseAt_27 f_X3_24 e10 ?_
      refine r_iload_n X 2 dX3_noiseAt_30 rfl rfl ?_
      refine r_iconst X (v := 1) dX3_noiseAt_31 (by decide) ?_
      refine r_iadd X dX3_noiseAt_32 ?_
      obtain ⟨x11, e12, E⟩ := gb_some E
      refine r_iald X dX3_noiseAt_33 e12 ?_
      refine r_iadd X dX3_noiseAt_34 ?_
      refine r_istore_n X 3 (L1 := [(3, .int (x7 + x11)), (2, .int (b0 + 2)), (0, .ref p), (1, .int b0)]) dX3_noiseAt_35 rfl (by decide) rfl ?_
      refine r_aload_n X 0 dX3_noiseAt_36 rfl rfl ?_
      obtain ⟨x13, e14, E⟩ := gb_some E
      refine r_getR X dX3_noiseAt_37 f_X3_24 e14 ?_
      refine r_iload_n X 2 dX3_noiseAt_40 rfl rfl ?_
      refine r_iconst X (v := 2) dX3_noiseAt_41 (by decide) ?_
      refine r_isub X dX3_noiseAt_42 ?_
      obtain ⟨x15, e16, E⟩ := gb_some E
      refine r_iald X dX3_noiseAt_43 e16 ?_
      refine r_aload_n X 0 dX3_noiseAt_44 rfl rfl ?_
      obtain ⟨x17, e18, E⟩ := gb_some E
      refine r_getR X dX3_noiseAt_45 f_X3_24 e18 ?_
      refine r_iload_n X 2 dX3_noiseAt_48 rfl rfl ?_
      refine r_iconst X (v := 2) dX3_noiseAt_49 (by decide) ?_
      refine r_iadd X dX3_noiseAt_50 ?_
      obtain ⟨x19, e20, E⟩ := gb_some E
      refine r_iald X dX3_noiseAt_51 e20 ?_
      refine r_iadd X dX3_noiseAt_52 ?_
      refine r_istore X (L1 := [(4, .int (x15 + x19)), (3, .int (x7 + x11)), (2, .int (b0 + 2)), (0, .ref p), (1, .int b0)]) dX3_noiseAt_53 (by decide) rfl ?_
      refine r_iload_n X 3 dX3_noiseAt_55 rfl rfl ?_
      refine r_iload X dX3_noiseAt_56 rfl ?_
      refine r_iconst X (v := 2) dX3_noiseAt_58 (by decide) ?_
      refine r_idiv X dX3_noiseAt_59 (by decide) ?_
      refine r_iadd X dX3_noiseAt_60 ?_
      cases E
      exact r_iret X hr dX3_noiseAt_61 (by decide) (by decide)
    · rw [if_neg c4] at E
      refine r_iconst X (v := 0) dX3_noiseAt_12 (by decide) ?_
      cases E
      exact r_iret X hr dX3_noiseAt_13 (by decide) (by decide)
theorem t_x3_noiseAt {l : Launch} {G : GG} {p : Nat} {b0 : Int32} {g : AH} {r : Int32} {g1 : AH} (E : x3_noiseAt p b0 g = some (r, g1)) : Ct l G yX3_noiseAt cX3_noiseAt 5 (some .int) ⟨1, 0, 0, 60⟩ [.ref p, .int b0] g (some (.int r)) g1 :=
  ct_of (L0 := [(0, .ref p), (1, .int b0)]) y_X3_noiseAt rfl (Nat.le_of_ble_eq_true rfl) fun M hl0 X hr hnm => t_x3_noiseAt_b X hl0 hr hnm E
set_option maxHeartbeats 4000000 in
set_option maxRecDepth 100000 in
theorem t_x3_activityNow_b {l : Launch} {G : GG} {M : MC} (X : CX M G cX3_activityNow 3 RX3 ⟨2, 0, 0, 84⟩) (hl0 : M.2.1 = l) (hr : (mM M).sig.returnType = (some .int)) (hnm : (mM M).name = yX3_activityNow.name) {p : Nat} {b0 : Int32} {g : AH} {r : Int32} {g1 : AH} (E : x3_activityNow p b0 g = some (r, g1)) : WW M G 3 (RQ M G (some (.int r)) g1 0 0) 0 0 g 0 [(0, .ref p), (1, .int b0)] [] := by
  unfold x3_activityNow at E
  refine r_aload_n X 0 dX3_activityNow_0 rfl rfl ?_
  obtain ⟨x1, e2, E⟩ := gb_some E
  refine r_getR X dX3_activityNow_1 f_X3_29 e2 ?_
  refine r_iload_n X 1 dX3_activityNow_4 rfl rfl ?_
  obtain ⟨x3, e4, E⟩ := gb_some E
  refine r_aald X 4 (by decide) rfl dX3_activityNow_5 e4 ?_
  refine r_astore_n X 2 (L1 := [(2, .ref x3), (0, .ref p), (1, .int b0)]) dX3_activityNow_6 rfl (by decide) rfl ?_
  refine r_aload_n X 2 dX3_activityNow_7 rfl rfl ?_
  obtain ⟨u8, e9, E⟩ := gb_some E
  obtain ⟨r5, g6, e7, E⟩ := cb_some E
  refine r_callV0 X hl0 (ci := 1) dX3_activityNow_8 y_X1_isCold m_X3_117 rfl rfl e9 (t_x1_isCold (l := l) (G := G) e7) rfl rfl (Nat.le_of_ble_eq_true rfl) (by decide) ?_
  refine r_if_eq X 16 dX3_activityNow_11 (by decide) (fun c10 => ?_) (fun c10 => ?_)
  · rw [if_pos c10] at E
    refine r_aload_n X 2 dX3_activityNow_16 rfl rfl ?_
    obtain ⟨x11, e12, E⟩ := gb_some E
    refine r_getI X dX3_activityNow_17 f_X3_104 e12 ?_
    refine r_iconst X (v := (-1)) dX3_activityNow_20 (by decide) ?_
    refine r_icmp_ne X 26 dX3_activityNow_21 (by decide) (fun c13 => ?_) (fun c13 => ?_)
    · rw [if_neg c13] at E
      refine r_aload_n X 0 dX3_activityNow_26 rfl rfl ?_
      refine r_aload_n X 2 dX3_activityNow_27 rfl rfl ?_
      obtain ⟨x14, e15, E⟩ := gb_some E
      refine r_getI X dX3_activityNow_28 f_X3_104 e15 ?_
      obtain ⟨u19, e20, E⟩ := gb_some E
      obtain ⟨r16, g17, e18, E⟩ := cb_some E
      refine r_callV0 X hl0 (ci := 3) dX3_activityNow_31 y_X3_noiseAt m_X3_124 rfl rfl e20 (t_x3_noiseAt (l := l) (G := G) e18) rfl rfl (Nat.le_of_ble_eq_true rfl) (by decide) ?_
      refine r_bipush X (v := 6) dX3_activityNow_34 (by decide) ?_
      refine r_icmp_le X 43 dX3_activityNow_36 (by decide) (fun c21 => ?_) (fun c21 => ?_)
      · rw [if_pos c21] at E
        refine r_iconst X (v := 2) dX3_activityNow_43 (by decide) ?_
        cases E
        exact r_iret X hr dX3_activityNow_44 (by decide) (by decide)
      · rw [if_neg c21] at E
        refine r_iconst X (v := 1) dX3_activityNow_39 (by decide) ?_
        refine r_goto X 44 dX3_activityNow_40 (by decide) ?_
        cases E
        exact r_iret X hr dX3_activityNow_44 (by decide) (by decide)
    · rw [if_pos c13] at E
      refine r_iconst X (v := 3) dX3_activityNow_24 (by decide) ?_
      cases E
      exact r_iret X hr dX3_activityNow_25 (by decide) (by decide)
  · rw [if_neg c10] at E
    refine r_iconst X (v := 0) dX3_activityNow_14 (by decide) ?_
    cases E
    exact r_iret X hr dX3_activityNow_15 (by decide) (by decide)
theorem t_x3_activityNow {l : Launch} {G : GG} {p : Nat} {b0 : Int32} {g : AH} {r : Int32} {g1 : AH} (E : x3_activityNow p b0 g = some (r, g1)) : Ct l G yX3_activityNow cX3_activityNow 3 (some .int) ⟨2, 0, 0, 84⟩ [.ref p, .int b0] g (some (.int r)) g1 :=
  ct_of (L0 := [(0, .ref p), (1, .int b0)]) y_X3_activityNow rfl (Nat.le_of_ble_eq_true rfl) fun M hl0 X hr hnm => t_x3_activityNow_b X hl0 hr hnm E
set_option maxHeartbeats 4000000 in
set_option maxRecDepth 100000 in
theorem t_x3_countOf_j24_4 {l : Launch} {G : GG} {M : MC} (X : CX M G cX3_countOf 4 RX3 ⟨3, 0, 0, 106⟩) (hl0 : M.2.1 = l) (hr : (mM M).sig.returnType = (some .int)) (hnm : (mM M).name = yX3_countOf.name) {Q : State → Prop} {kc ks : Nat} {s9 : ((Int32 × Int32) ⊕ (Int32))} {g1 : AH} {a0 : Nat} {a1 : Int32} {a2 : Int32} {a3 : Int32} (hc : ∀ s1, s9 = .inl s1 → WW M G 4 Q kc ks g1 4 [(0, .ref a0), (1, .int a1), (2, .int s1.1), (3, .int s1.2)] []) (hx : ∀ t, s9 = .inr t → WW M G 4 Q kc ks g1 30 [(2, .int t)] []) {g : AH} (E : x3_countOf_j24_4 a0 a1 a2 a3 g = some (s9, g1)) : WW M G 4 Q kc ks g 24 [(0, .ref a0), (1, .int a1), (2, .int a2), (3, .int a3)] [] := by
  unfold x3_countOf_j24_4 at E
  refine r_iinc X (v := (a3 + 1)) (L1 := [(3, .int (a3 + 1)), (0, .ref a0), (1, .int a1), (2, .int a2)]) dX3_countOf_24 rfl rfl (by decide) rfl ?_
  refine r_goto X 4 dX3_countOf_27 (by decide) ?_
  cases E
  exact r_pick (by rfl : lpick [(3, .int (a3 + 1)), (0, .ref a0), (1, .int a1), (2, .int a2)] [1, 2, 3, 0] = _) (hc _ rfl)
set_option maxHeartbeats 4000000 in
set_option maxRecDepth 100000 in
theorem t_x3_countOf_l4 {l : Launch} {G : GG} {M : MC} (X : CX M G cX3_countOf 4 RX3 ⟨3, 0, 0, 106⟩) (hl0 : M.2.1 = l) (hr : (mM M).sig.returnType = (some .int)) (hnm : (mM M).name = yX3_countOf.name) {Q : State → Prop} {kc ks : Nat} {s9 : ((Int32 × Int32) ⊕ (Int32))} {g1 : AH} {a0 : Nat} {a1 : Int32} {s0 : Int32 × Int32} (hc : ∀ s1, s9 = .inl s1 → WW M G 4 Q kc ks g1 4 [(0, .ref a0), (1, .int a1), (2, .int s1.1), (3, .int s1.2)] []) (hx : ∀ t, s9 = .inr t → WW M G 4 Q kc ks g1 30 [(2, .int t)] []) {g : AH} (E : x3_countOf_l4 a0 a1 s0 g = some (s9, g1)) : WW M G 4 Q kc ks g 4 [(0, .ref a0), (1, .int a1), (2, .int s0.1), (3, .int s0.2)] [] := by
  unfold x3_countOf_l4 at E
  refine r_iload_n X 3 dX3_countOf_4 rfl rfl ?_
  refine r_aload_n X 0 dX3_countOf_5 rfl rfl ?_
  obtain ⟨x1, e2, E⟩ := gb_some E
  refine r_getI X dX3_countOf_6 f_X3_78 e2 ?_
  refine r_icmp_ge X 30 dX3_countOf_9 (by decide) (fun c3 => ?_) (fun c3 => ?_)
  · rw [if_pos c3] at E
    cases E
    exact r_pick (by rfl : lpick [(0, .ref a0), (1, .int a1), (2, .int s0.1), (3, .int s0.2)] [2] = _) (hx _ rfl)
  · rw [if_neg c3] at E
    refine r_aload_n X 0 dX3_countOf_12 rfl rfl ?_
    refine r_iload_n X 3 dX3_countOf_13 rfl rfl ?_
    obtain ⟨u7, e8, E⟩ := gb_some E
    obtain ⟨r4, g5, e6, E⟩ := cb_some E
    refine r_callV0 X hl0 (ci := 3) dX3_countOf_14 y_X3_activityNow m_X3_175 rfl rfl e8 (t_x3_activityNow (l := l) (G := G) e6) rfl rfl (Nat.le_of_ble_eq_true rfl) (by decide) ?_
    refine r_iload_n X 1 dX3_countOf_17 rfl rfl ?_
    refine r_icmp_ne X 24 dX3_countOf_18 (by decide) (fun c9 => ?_) (fun c9 => ?_)
    · rw [if_neg c9] at E
      exact r_pick (by rfl : lpick [(0, .ref a0), (1, .int a1), (2, .int s0.1), (3, .int s0.2)] [0, 1, 2, 3] = _) (t_x3_countOf_j24_4 X hl0 hr hnm hc hx E)
    · rw [if_pos c9] at E
      refine r_iinc X (v := (s0.1 + 1)) (L1 := [(2, .int (s0.1 + 1)), (0, .ref a0), (1, .int a1), (3, .int s0.2)]) dX3_countOf_21 rfl rfl (by decide) rfl ?_
      exact r_pick (by rfl : lpick [(2, .int (s0.1 + 1)), (0, .ref a0), (1, .int a1), (3, .int s0.2)] [1, 2, 0, 3] = _) (t_x3_countOf_j24_4 X hl0 hr hnm hc hx E)
set_option maxHeartbeats 4000000 in
theorem t_x3_countOf_l4_r {l : Launch} {G : GG} {M : MC} (X : CX M G cX3_countOf 4 RX3 ⟨3, 0, 0, 106⟩) (hl0 : M.2.1 = l) (hr : (mM M).sig.returnType = (some .int)) (hnm : (mM M).name = yX3_countOf.name) {Q : State → Prop} {kc ks : Nat} {a0 : Nat} {a1 : Int32} : ∀ (n : Nat) (s0 : Int32 × Int32) (g : AH) (t : (Int32)) (g1 : AH), loopX (x3_countOf_l4 a0 a1) n s0 g = some (t, g1) → WW M G 4 Q kc ks g1 30 [(2, .int t)] [] → WW M G 4 Q kc ks g 4 [(0, .ref a0), (1, .int a1), (2, .int s0.1), (3, .int s0.2)] [] :=
  loop_cps (K := fun t g1 => WW M G 4 Q kc ks g1 30 [(2, .int t)] []) (fun _ s0 g => WW M G 4 Q kc ks g 4 [(0, .ref a0), (1, .int a1), (2, .int s0.1), (3, .int s0.2)] []) (fun n s0 g st g1 E hc hx => t_x3_countOf_l4 X hl0 hr hnm hc hx E)
set_option maxHeartbeats 4000000 in
set_option maxRecDepth 100000 in
theorem t_x3_countOf_b {l : Launch} {G : GG} {M : MC} (X : CX M G cX3_countOf 4 RX3 ⟨3, 0, 0, 106⟩) (hl0 : M.2.1 = l) (hr : (mM M).sig.returnType = (some .int)) (hnm : (mM M).name = yX3_countOf.name) {p : Nat} {b0 : Int32} {g : AH} {r : Int32} {g1 : AH} (E : x3_countOf p b0 g = some (r, g1)) : WW M G 4 (RQ M G (some (.int r)) g1 0 0) 0 0 g 0 [(0, .ref p), (1, .int b0)] [] := by
  unfold x3_countOf at E
  refine r_iconst X (v := 0) dX3_countOf_0 (by decide) ?_
  refine r_istore_n X 2 (L1 := [(2, .int 0), (0, .ref p), (1, .int b0)]) dX3_countOf_1 rfl (by decide) rfl ?_
  refine r_iconst X (v := 0) dX3_countOf_2 (by decide) ?_
  refine r_istore_n X 3 (L1 := [(3, .int 0), (2, .int 0), (0, .ref p), (1, .int b0)]) dX3_countOf_3 rfl (by decide) rfl ?_
  obtain ⟨t1, g2, e3, E⟩ := cb_some E
  refine r_pick (by rfl : lpick [(3, .int 0), (2, .int 0), (0, .ref p), (1, .int b0)] [2, 3, 1, 0] = _) (t_x3_countOf_l4_r X hl0 hr hnm _ _ _ _ _ e3 ?_)
  refine r_iload_n X 2 dX3_countOf_30 rfl rfl ?_
  cases E
  exact r_iret X hr dX3_countOf_31 (by decide) (by decide)
theorem t_x3_countOf {l : Launch} {G : GG} {p : Nat} {b0 : Int32} {g : AH} {r : Int32} {g1 : AH} (E : x3_countOf p b0 g = some (r, g1)) : Ct l G yX3_countOf cX3_countOf 4 (some .int) ⟨3, 0, 0, 106⟩ [.ref p, .int b0] g (some (.int r)) g1 :=
  ct_of (L0 := [(0, .ref p), (1, .int b0)]) y_X3_countOf rfl (Nat.le_of_ble_eq_true rfl) fun M hl0 X hr hnm => t_x3_countOf_b X hl0 hr hnm E
set_option maxHeartbeats 4000000 in
set_option maxRecDepth 100000 in
theorem t_x3_coldCount_b {l : Launch} {G : GG} {M : MC} (X : CX M G cX3_coldCount 1 RX3 ⟨4, 0, 0, 129⟩) (hl0 : M.2.1 = l) (hr : (mM M).sig.returnType = (some .int)) (hnm : (mM M).name = yX3_coldCount.name) {p : Nat} {g : AH} {r : Int32} {g1 : AH} (E : x3_coldCount p g = some (r, g1)) : WW M G 1 (RQ M G (some (.int r)) g1 0 0) 0 0 g 0 [(0, .ref p)] [] := by
  unfold x3_coldCount at E
  refine r_aload_n X 0 dX3_coldCount_0 rfl rfl ?_
  refine r_iconst X (v := 0) dX3_coldCount_1 (by decide) ?_
  obtain ⟨u4, e5, E⟩ := gb_some E
  obtain ⟨r1, g2, e3, E⟩ := cb_some E
  refine r_callV0 X hl0 (ci := 3) dX3_coldCount_2 y_X3_countOf m_X3_172 rfl rfl e5 (t_x3_countOf (l := l) (G := G) e3) rfl rfl (Nat.le_of_ble_eq_true rfl) (by decide) ?_
  cases E
  exact r_iret X hr dX3_coldCount_5 (by decide) (by decide)
theorem t_x3_coldCount {l : Launch} {G : GG} {p : Nat} {g : AH} {r : Int32} {g1 : AH} (E : x3_coldCount p g = some (r, g1)) : Ct l G yX3_coldCount cX3_coldCount 1 (some .int) ⟨4, 0, 0, 129⟩ [.ref p] g (some (.int r)) g1 :=
  ct_of (L0 := [(0, .ref p)]) y_X3_coldCount rfl (Nat.le_of_ble_eq_true rfl) fun M hl0 X hr hnm => t_x3_coldCount_b X hl0 hr hnm E
set_option maxHeartbeats 4000000 in
set_option maxRecDepth 100000 in
theorem t_x3_moveTo_j44 {l : Launch} {G : GG} {M : MC} (X : CX M G cX3_moveTo 4 RX3 ⟨4, 0, 0, 128⟩) (hl0 : M.2.1 = l) (hr : (mM M).sig.returnType = (some .int)) (hnm : (mM M).name = yX3_moveTo.name) {a0 : Nat} {a1 : Int32} {a2 : Int32} {a3 : Int32} {g : AH} {r : Int32} {g1 : AH} (E : x3_moveTo_j44 a0 a1 a2 a3 g = some (r, g1)) : WW M G 4 (RQ M G (some (.int r)) g1 0 0) 0 0 g 44 [(0, .ref a0), (1, .int a1), (2, .int a2), (3, .int a3)] [] := by
  unfold x3_moveTo_j44 at E
  refine r_aload_n X 0 dX3_moveTo_44 rfl rfl ?_
  obtain ⟨x1, e2, E⟩ := gb_some E
  refine r_getR X dX3_moveTo_45 f_X3_29 e2 ?_
  refine r_iload_n X 1 dX3_moveTo_48 rfl rfl ?_
  obtain ⟨x3, e4, E⟩ := gb_some E
  refine r_aald X 4 (by decide) rfl dX3_moveTo_49 e4 ?_
  refine r_iload_n X 2 dX3_moveTo_50 rfl rfl ?_
  obtain ⟨g5, e6, E⟩ := gb_some E
  refine r_put X dX3_moveTo_51 f_X3_104 rfl rfl e6 ?_
  refine r_aload_n X 0 dX3_moveTo_54 rfl rfl ?_
  obtain ⟨u10, e11, E⟩ := gb_some E
  obtain ⟨r7, g8, e9, E⟩ := cb_some E
  refine r_callV0 X hl0 (ci := 3) dX3_moveTo_55 y_X3_measure m_X3_48 rfl rfl e11 (t_x3_measure (l := l) (G := G) e9) rfl rfl (Nat.le_of_ble_eq_true rfl) (by decide) ?_
  refine r_iload_n X 3 dX3_moveTo_58 rfl rfl ?_
  cases E
  exact r_iret X hr dX3_moveTo_59 (by decide) (by decide)
set_option maxHeartbeats 4000000 in
set_option maxRecDepth 100000 in
theorem t_x3_moveTo_j27 {l : Launch} {G : GG} {M : MC} (X : CX M G cX3_moveTo 4 RX3 ⟨4, 0, 0, 128⟩) (hl0 : M.2.1 = l) (hr : (mM M).sig.returnType = (some .int)) (hnm : (mM M).name = yX3_moveTo.name) {a0 : Nat} {a1 : Int32} {a2 : Int32} {a3 : Int32} {g : AH} {r : Int32} {g1 : AH} (E : x3_moveTo_j27 a0 a1 a2 a3 g = some (r, g1)) : WW M G 4 (RQ M G (some (.int r)) g1 0 0) 0 0 g 27 [(0, .ref a0), (1, .int a1), (2, .int a2), (3, .int a3)] [] := by
  unfold x3_moveTo_j27 at E
  refine r_aload_n X 0 dX3_moveTo_27 rfl rfl ?_
  refine r_iload_n X 2 dX3_moveTo_28 rfl rfl ?_
  obtain ⟨u4, e5, E⟩ := gb_some E
  obtain ⟨r1, g2, e3, E⟩ := cb_some E
  refine r_callV0 X hl0 (ci := 3) dX3_moveTo_29 y_X3_hasBunk m_X3_114 rfl rfl e5 (t_x3_hasBunk (l := l) (G := G) e3) rfl rfl (Nat.le_of_ble_eq_true rfl) (by decide) ?_
  refine r_if_eq X 44 dX3_moveTo_32 (by decide) (fun c6 => ?_) (fun c6 => ?_)
  · rw [if_pos c6] at E
    exact r_pick (by rfl : lpick [(0, .ref a0), (1, .int a1), (2, .int a2), (3, .int a3)] [0, 1, 2, 3] = _) (t_x3_moveTo_j44 X hl0 hr hnm E)
  · rw [if_neg c6] at E
    refine r_aload_n X 0 dX3_moveTo_35 rfl rfl ?_
    obtain ⟨x7, e8, E⟩ := gb_some E
    refine r_getR X dX3_moveTo_36 f_X3_21 e8 ?_
    refine r_iload_n X 2 dX3_moveTo_39 rfl rfl ?_
    refine r_iconst X (v := 2) dX3_moveTo_40 (by decide) ?_
    refine r_iadd X dX3_moveTo_41 ?_
    refine r_iload_n X 1 dX3_moveTo_42 rfl rfl ?_
    obtain ⟨g9, e10, E⟩ := gb_some E
    refine r_iast X dX3_moveTo_43 e10 ?_
    exact r_pick (by rfl : lpick [(0, .ref a0), (1, .int a1), (2, .int a2), (3, .int a3)] [0, 1, 2, 3] = _) (t_x3_moveTo_j44 X hl0 hr hnm E)
set_option maxHeartbeats 4000000 in
set_option maxRecDepth 100000 in
theorem t_x3_moveTo_b {l : Launch} {G : GG} {M : MC} (X : CX M G cX3_moveTo 4 RX3 ⟨4, 0, 0, 128⟩) (hl0 : M.2.1 = l) (hr : (mM M).sig.returnType = (some .int)) (hnm : (mM M).name = yX3_moveTo.name) {p : Nat} {b0 : Int32} {b1 : Int32} {g : AH} {r : Int32} {g1 : AH} (E : x3_moveTo p b0 b1 g = some (r, g1)) : WW M G 4 (RQ M G (some (.int r)) g1 0 0) 0 0 g 0 [(0, .ref p), (1, .int b0), (2, .int b1)] [] := by
  unfold x3_moveTo at E
  refine r_aload_n X 0 dX3_moveTo_0 rfl rfl ?_
  obtain ⟨x1, e2, E⟩ := gb_some E
  refine r_getR X dX3_moveTo_1 f_X3_29 e2 ?_
  refine r_iload_n X 1 dX3_moveTo_4 rfl rfl ?_
  obtain ⟨x3, e4, E⟩ := gb_some E
  refine r_aald X 4 (by decide) rfl dX3_moveTo_5 e4 ?_
  obtain ⟨x5, e6, E⟩ := gb_some E
  refine r_getI X dX3_moveTo_6 f_X3_104 e6 ?_
  refine r_istore_n X 3 (L1 := [(3, .int x5), (0, .ref p), (1, .int b0), (2, .int b1)]) dX3_moveTo_9 rfl (by decide) rfl ?_
  refine r_aload_n X 0 dX3_moveTo_10 rfl rfl ?_
  refine r_iload_n X 3 dX3_moveTo_11 rfl rfl ?_
  obtain ⟨u10, e11, E⟩ := gb_some E
  obtain ⟨r7, g8, e9, E⟩ := cb_some E
  refine r_callV0 X hl0 (ci := 3) dX3_moveTo_12 y_X3_hasBunk m_X3_114 rfl rfl e11 (t_x3_hasBunk (l := l) (G := G) e9) rfl rfl (Nat.le_of_ble_eq_true rfl) (by decide) ?_
  refine r_if_eq X 27 dX3_moveTo_15 (by decide) (fun c12 => ?_) (fun c12 => ?_)
  · rw [if_pos c12] at E
    exact r_pick (by rfl : lpick [(3, .int x5), (0, .ref p), (1, .int b0), (2, .int b1)] [1, 2, 3, 0] = _) (t_x3_moveTo_j27 X hl0 hr hnm E)
  · rw [if_neg c12] at E
    refine r_aload_n X 0 dX3_moveTo_18 rfl rfl ?_
    obtain ⟨x13, e14, E⟩ := gb_some E
    refine r_getR X dX3_moveTo_19 f_X3_21 e14 ?_
    refine r_iload_n X 3 dX3_moveTo_22 rfl rfl ?_
    refine r_iconst X (v := 2) dX3_moveTo_23 (by decide) ?_
    refine r_iadd X dX3_moveTo_24 ?_
    refine r_iconst X (v := (-1)) dX3_moveTo_25 (by decide) ?_
    obtain ⟨g15, e16, E⟩ := gb_some E
    refine r_iast X dX3_moveTo_26 e16 ?_
    exact r_pick (by rfl : lpick [(3, .int x5), (0, .ref p), (1, .int b0), (2, .int b1)] [1, 2, 3, 0] = _) (t_x3_moveTo_j27 X hl0 hr hnm E)
theorem t_x3_moveTo {l : Launch} {G : GG} {p : Nat} {b0 : Int32} {b1 : Int32} {g : AH} {r : Int32} {g1 : AH} (E : x3_moveTo p b0 b1 g = some (r, g1)) : Ct l G yX3_moveTo cX3_moveTo 4 (some .int) ⟨4, 0, 0, 128⟩ [.ref p, .int b0, .int b1] g (some (.int r)) g1 :=
  ct_of (L0 := [(0, .ref p), (1, .int b0), (2, .int b1)]) y_X3_moveTo rfl (Nat.le_of_ble_eq_true rfl) fun M hl0 X hr hnm => t_x3_moveTo_b X hl0 hr hnm E
set_option maxHeartbeats 4000000 in
set_option maxRecDepth 100000 in
theorem t_x3_changeRate_b {l : Launch} {G : GG} {M : MC} (X : CX M G cX3_changeRate 3 RX3 ⟨1, 0, 0, 60⟩) (hl0 : M.2.1 = l) (hr : (mM M).sig.returnType = (some .int)) (hnm : (mM M).name = yX3_changeRate.name) {p : Nat} {b0 : Int32} {g : AH} {r : Int32} {g1 : AH} (E : x3_changeRate p b0 g = some (r, g1)) : WW M G 3 (RQ M G (some (.int r)) g1 0 0) 0 0 g 0 [(0, .ref p), (1, .int b0)] [] := by
  unfold x3_changeRate at E
  refine r_aload_n X 0 dX3_changeRate_0 rfl rfl ?_
  obtain ⟨x1, e2, E⟩ := gb_some E
  refine r_getI X dX3_changeRate_1 f_X3_57 e2 ?_
  refine r_istore_n X 2 (L1 := [(2, .int x1), (0, .ref p), (1, .int b0)]) dX3_changeRate_4 rfl (by decide) rfl ?_
  refine r_aload_n X 0 dX3_changeRate_5 rfl rfl ?_
  refine r_iload_n X 1 dX3_changeRate_6 rfl rfl ?_
  obtain ⟨g3, e4, E⟩ := gb_some E
  refine r_put X dX3_changeRate_7 f_X3_57 rfl rfl e4 ?_
  refine r_iload_n X 2 dX3_changeRate_10 rfl rfl ?_
  cases E
  exact r_iret X hr dX3_changeRate_11 (by decide) (by decide)
theorem t_x3_changeRate {l : Launch} {G : GG} {p : Nat} {b0 : Int32} {g : AH} {r : Int32} {g1 : AH} (E : x3_changeRate p b0 g = some (r, g1)) : Ct l G yX3_changeRate cX3_changeRate 3 (some .int) ⟨1, 0, 0, 60⟩ [.ref p, .int b0] g (some (.int r)) g1 :=
  ct_of (L0 := [(0, .ref p), (1, .int b0)]) y_X3_changeRate rfl (Nat.le_of_ble_eq_true rfl) fun M hl0 X hr hnm => t_x3_changeRate_b X hl0 hr hnm E
set_option maxHeartbeats 4000000 in
set_option maxRecDepth 100000 in
theorem t_x3_addLogs_b {l : Launch} {G : GG} {M : MC} (X : CX M G cX3_addLogs 2 RX3 ⟨1, 0, 0, 60⟩) (hl0 : M.2.1 = l) (hr : (mM M).sig.returnType = (some .int)) (hnm : (mM M).name = yX3_addLogs.name) {p : Nat} {b0 : Int32} {g : AH} {r : Int32} {g1 : AH} (E : x3_addLogs p b0 g = some (r, g1)) : WW M G 2 (RQ M G (some (.int r)) g1 0 0) 0 0 g 0 [(0, .ref p), (1, .int b0)] [] := by
  unfold x3_addLogs at E
  refine r_aload_n X 0 dX3_addLogs_0 rfl rfl ?_
  refine r_dup X dX3_addLogs_1 rfl ?_
  obtain ⟨x1, e2, E⟩ := gb_some E
  refine r_getI X dX3_addLogs_2 f_X3_34 e2 ?_
  refine r_iload_n X 1 dX3_addLogs_5 rfl rfl ?_
  refine r_iadd X dX3_addLogs_6 ?_
  obtain ⟨g3, e4, E⟩ := gb_some E
  refine r_put X dX3_addLogs_7 f_X3_34 rfl rfl e4 ?_
  refine r_aload_n X 0 dX3_addLogs_10 rfl rfl ?_
  refine r_dup X dX3_addLogs_11 rfl ?_
  obtain ⟨x5, e6, E⟩ := gb_some E
  refine r_getI X dX3_addLogs_12 f_X3_38 e6 ?_
  refine r_iload_n X 1 dX3_addLogs_15 rfl rfl ?_
  refine r_iadd X dX3_addLogs_16 ?_
  obtain ⟨g7, e8, E⟩ := gb_some E
  refine r_put X dX3_addLogs_17 f_X3_38 rfl rfl e8 ?_
  refine r_aload_n X 0 dX3_addLogs_20 rfl rfl ?_
  obtain ⟨x9, e10, E⟩ := gb_some E
  refine r_getI X dX3_addLogs_21 f_X3_34 e10 ?_
  cases E
  exact r_iret X hr dX3_addLogs_24 (by decide) (by decide)
theorem t_x3_addLogs {l : Launch} {G : GG} {p : Nat} {b0 : Int32} {g : AH} {r : Int32} {g1 : AH} (E : x3_addLogs p b0 g = some (r, g1)) : Ct l G yX3_addLogs cX3_addLogs 2 (some .int) ⟨1, 0, 0, 60⟩ [.ref p, .int b0] g (some (.int r)) g1 :=
  ct_of (L0 := [(0, .ref p), (1, .int b0)]) y_X3_addLogs rfl (Nat.le_of_ble_eq_true rfl) fun M hl0 X hr hnm => t_x3_addLogs_b X hl0 hr hnm E
set_option maxHeartbeats 4000000 in
set_option maxRecDepth 100000 in
theorem t_x3_payBack_b {l : Launch} {G : GG} {M : MC} (X : CX M G cX3_payBack 3 RX3 ⟨1, 0, 0, 60⟩) (hl0 : M.2.1 = l) (hr : (mM M).sig.returnType = (some .int)) (hnm : (mM M).name = yX3_payBack.name) {p : Nat} {b0 : Int32} {b1 : Int32} {g : AH} {r : Int32} {g1 : AH} (E : x3_payBack p b0 b1 g = some (r, g1)) : WW M G 3 (RQ M G (some (.int r)) g1 0 0) 0 0 g 0 [(0, .ref p), (1, .int b0), (2, .int b1)] [] := by
  unfold x3_payBack at E
  refine r_aload_n X 0 dX3_payBack_0 rfl rfl ?_
  obtain ⟨x1, e2, E⟩ := gb_some E
  refine r_getR X dX3_payBack_1 f_X3_29 e2 ?_
  refine r_iload_n X 1 dX3_payBack_4 rfl rfl ?_
  obtain ⟨x3, e4, E⟩ := gb_some E
  refine r_aald X 4 (by decide) rfl dX3_payBack_5 e4 ?_
  refine r_dup X dX3_payBack_6 rfl ?_
  obtain ⟨x5, e6, E⟩ := gb_some E
  refine r_getI X dX3_payBack_7 f_X3_188 e6 ?_
  refine r_iload_n X 2 dX3_payBack_10 rfl rfl ?_
  refine r_isub X dX3_payBack_11 ?_
  obtain ⟨g7, e8, E⟩ := gb_some E
  refine r_put X dX3_payBack_12 f_X3_188 rfl rfl e8 ?_
  refine r_aload_n X 0 dX3_payBack_15 rfl rfl ?_
  obtain ⟨x9, e10, E⟩ := gb_some E
  refine r_getR X dX3_payBack_16 f_X3_29 e10 ?_
  refine r_iload_n X 1 dX3_payBack_19 rfl rfl ?_
  obtain ⟨x11, e12, E⟩ := gb_some E
  refine r_aald X 4 (by decide) rfl dX3_payBack_20 e12 ?_
  refine r_dup X dX3_payBack_21 rfl ?_
  obtain ⟨x13, e14, E⟩ := gb_some E
  refine r_getI X dX3_payBack_22 f_X3_191 e14 ?_
  refine r_iload_n X 2 dX3_payBack_25 rfl rfl ?_
  refine r_isub X dX3_payBack_26 ?_
  obtain ⟨g15, e16, E⟩ := gb_some E
  refine r_put X dX3_payBack_27 f_X3_191 rfl rfl e16 ?_
  refine r_aload_n X 0 dX3_payBack_30 rfl rfl ?_
  refine r_dup X dX3_payBack_31 rfl ?_
  obtain ⟨x17, e18, E⟩ := gb_some E
  refine r_getI X dX3_payBack_32 f_X3_60 e18 ?_
  refine r_iload_n X 2 dX3_payBack_35 rfl rfl ?_
  refine r_iadd X dX3_payBack_36 ?_
  obtain ⟨g19, e20, E⟩ := gb_some E
  refine r_put X dX3_payBack_37 f_X3_60 rfl rfl e20 ?_
  refine r_aload_n X 0 dX3_payBack_40 rfl rfl ?_
  obtain ⟨x21, e22, E⟩ := gb_some E
  refine r_getR X dX3_payBack_41 f_X3_29 e22 ?_
  refine r_iload_n X 1 dX3_payBack_44 rfl rfl ?_
  obtain ⟨x23, e24, E⟩ := gb_some E
  refine r_aald X 4 (by decide) rfl dX3_payBack_45 e24 ?_
  obtain ⟨x25, e26, E⟩ := gb_some E
  refine r_getI X dX3_payBack_46 f_X3_191 e26 ?_
  cases E
  exact r_iret X hr dX3_payBack_49 (by decide) (by decide)
theorem t_x3_payBack {l : Launch} {G : GG} {p : Nat} {b0 : Int32} {b1 : Int32} {g : AH} {r : Int32} {g1 : AH} (E : x3_payBack p b0 b1 g = some (r, g1)) : Ct l G yX3_payBack cX3_payBack 3 (some .int) ⟨1, 0, 0, 60⟩ [.ref p, .int b0, .int b1] g (some (.int r)) g1 :=
  ct_of (L0 := [(0, .ref p), (1, .int b0), (2, .int b1)]) y_X3_payBack rfl (Nat.le_of_ble_eq_true rfl) fun M hl0 X hr hnm => t_x3_payBack_b X hl0 hr hnm E
set_option maxHeartbeats 4000000 in
set_option maxRecDepth 100000 in
theorem t_x3_burnLogs_j22 {l : Launch} {G : GG} {M : MC} (X : CX M G cX3_burnLogs 2 RX3 ⟨1, 0, 0, 60⟩) (hl0 : M.2.1 = l) (hr : (mM M).sig.returnType = none) (hnm : (mM M).name = yX3_burnLogs.name) {a0 : Nat} {s0 : Int32} {g : AH} {r : Unit} {g1 : AH} (E : x3_burnLogs_j22 a0 s0 g = some (r, g1)) : WW M G 2 (RQ M G none g1 0 0) 0 0 g 22 [(0, .ref a0)] [.int s0] := by
  unfold x3_burnLogs_j22 at E
  refine r_istore_n X 1 (L1 := [(1, .int s0), (0, .ref a0)]) dX3_burnLogs_22 rfl (by decide) rfl ?_
  refine r_aload_n X 0 dX3_burnLogs_23 rfl rfl ?_
  refine r_dup X dX3_burnLogs_24 rfl ?_
  obtain ⟨x1, e2, E⟩ := gb_some E
  refine r_getI X dX3_burnLogs_25 f_X3_34 e2 ?_
  refine r_iload_n X 1 dX3_burnLogs_28 rfl rfl ?_
  refine r_isub X dX3_burnLogs_29 ?_
  obtain ⟨g3, e4, E⟩ := gb_some E
  refine r_put X dX3_burnLogs_30 f_X3_34 rfl rfl e4 ?_
  refine r_aload_n X 0 dX3_burnLogs_33 rfl rfl ?_
  refine r_dup X dX3_burnLogs_34 rfl ?_
  obtain ⟨x5, e6, E⟩ := gb_some E
  refine r_getI X dX3_burnLogs_35 f_X3_63 e6 ?_
  refine r_iload_n X 1 dX3_burnLogs_38 rfl rfl ?_
  refine r_iadd X dX3_burnLogs_39 ?_
  obtain ⟨g7, e8, E⟩ := gb_some E
  refine r_put X dX3_burnLogs_40 f_X3_63 rfl rfl e8 ?_
  refine r_aload_n X 0 dX3_burnLogs_43 rfl rfl ?_
  refine r_dup X dX3_burnLogs_44 rfl ?_
  obtain ⟨x9, e10, E⟩ := gb_some E
  refine r_getI X dX3_burnLogs_45 f_X3_66 e10 ?_
  refine r_iload_n X 1 dX3_burnLogs_48 rfl rfl ?_
  refine r_iadd X dX3_burnLogs_49 ?_
  obtain ⟨g11, e12, E⟩ := gb_some E
  refine r_put X dX3_burnLogs_50 f_X3_66 rfl rfl e12 ?_
  refine r_aload_n X 0 dX3_burnLogs_53 rfl rfl ?_
  refine r_aload_n X 0 dX3_burnLogs_54 rfl rfl ?_
  obtain ⟨x13, e14, E⟩ := gb_some E
  refine r_getI X dX3_burnLogs_55 f_X3_54 e14 ?_
  refine r_iconst X (v := 2) dX3_burnLogs_58 (by decide) ?_
  refine r_idiv X dX3_burnLogs_59 (by decide) ?_
  refine r_iconst X (v := 4) dX3_burnLogs_60 (by decide) ?_
  refine r_iload_n X 1 dX3_burnLogs_61 rfl rfl ?_
  refine r_imul X dX3_burnLogs_62 ?_
  refine r_iadd X dX3_burnLogs_63 ?_
  obtain ⟨g16, e17, E⟩ := gb_some E
  refine r_put X dX3_burnLogs_64 f_X3_54 rfl rfl e17 ?_
  cases E
  exact r_vret X hr dX3_burnLogs_67 (by decide) (by decide)
set_option maxHeartbeats 4000000 in
set_option maxRecDepth 100000 in
theorem t_x3_burnLogs_b {l : Launch} {G : GG} {M : MC} (X : CX M G cX3_burnLogs 2 RX3 ⟨1, 0, 0, 60⟩) (hl0 : M.2.1 = l) (hr : (mM M).sig.returnType = none) (hnm : (mM M).name = yX3_burnLogs.name) {p : Nat} {g : AH} {r : Unit} {g1 : AH} (E : x3_burnLogs p g = some (r, g1)) : WW M G 2 (RQ M G none g1 0 0) 0 0 g 0 [(0, .ref p)] [] := by
  unfold x3_burnLogs at E
  refine r_aload_n X 0 dX3_burnLogs_0 rfl rfl ?_
  obtain ⟨x1, e2, E⟩ := gb_some E
  refine r_getI X dX3_burnLogs_1 f_X3_57 e2 ?_
  refine r_aload_n X 0 dX3_burnLogs_4 rfl rfl ?_
  obtain ⟨x3, e4, E⟩ := gb_some E
  refine r_getI X dX3_burnLogs_5 f_X3_34 e4 ?_
  refine r_icmp_ge X 18 dX3_burnLogs_8 (by decide) (fun c5 => ?_) (fun c5 => ?_)
  · rw [if_pos c5] at E
    refine r_aload_n X 0 dX3_burnLogs_18 rfl rfl ?_
    obtain ⟨x6, e7, E⟩ := gb_some E
    refine r_getI X dX3_burnLogs_19 f_X3_34 e7 ?_
    exact r_pick (by rfl : lpick [(0, .ref p)] [0] = _) (t_x3_burnLogs_j22 X hl0 hr hnm E)
  · rw [if_neg c5] at E
    refine r_aload_n X 0 dX3_burnLogs_11 rfl rfl ?_
    obtain ⟨x8, e9, E⟩ := gb_some E
    refine r_getI X dX3_burnLogs_12 f_X3_57 e9 ?_
    refine r_goto X 22 dX3_burnLogs_15 (by decide) ?_
    exact r_pick (by rfl : lpick [(0, .ref p)] [0] = _) (t_x3_burnLogs_j22 X hl0 hr hnm E)
theorem t_x3_burnLogs {l : Launch} {G : GG} {p : Nat} {g : AH} {r : Unit} {g1 : AH} (E : x3_burnLogs p g = some (r, g1)) : Ct l G yX3_burnLogs cX3_burnLogs 2 none ⟨1, 0, 0, 60⟩ [.ref p] g none g1 :=
  ct_of (L0 := [(0, .ref p)]) y_X3_burnLogs rfl (Nat.le_of_ble_eq_true rfl) fun M hl0 X hr hnm => t_x3_burnLogs_b X hl0 hr hnm E
set_option maxHeartbeats 4000000 in
set_option maxRecDepth 100000 in
theorem t_x3_noteWhatHappens_l2 {l : Launch} {G : GG} {M : MC} (X : CX M G cX3_noteWhatHappens 2 RX3 ⟨3, 0, 0, 106⟩) (hl0 : M.2.1 = l) (hr : (mM M).sig.returnType = none) (hnm : (mM M).name = yX3_noteWhatHappens.name) {Q : State → Prop} {kc ks : Nat} {s9 : ((Int32) ⊕ (Unit))} {g1 : AH} {a0 : Nat} {s0 : Int32} (hc : ∀ s1, s9 = .inl s1 → WW M G 2 Q kc ks g1 2 [(0, .ref a0), (1, .int s1)] []) (hx : ∀ t, s9 = .inr t → WW M G 2 Q kc ks g1 35 [] []) {g : AH} (E : x3_noteWhatHappens_l2 a0 s0 g = some (s9, g1)) : WW M G 2 Q kc ks g 2 [(0, .ref a0), (1, .int s0)] [] := by
  unfold x3_noteWhatHappens_l2 at E
  refine r_iload_n X 1 dX3_noteWhatHappens_2 rfl rfl ?_
  refine r_aload_n X 0 dX3_noteWhatHappens_3 rfl rfl ?_
  obtain ⟨x1, e2, E⟩ := gb_some E
  refine r_getI X dX3_noteWhatHappens_4 f_X3_78 e2 ?_
  refine r_icmp_ge X 35 dX3_noteWhatHappens_7 (by decide) (fun c3 => ?_) (fun c3 => ?_)
  · rw [if_pos c3] at E
    cases E
    exact r_pick (by rfl : lpick [(0, .ref a0), (1, .int s0)] [] = _) (hx _ rfl)
  · rw [if_neg c3] at E
    refine r_aload_n X 0 dX3_noteWhatHappens_10 rfl rfl ?_
    obtain ⟨x4, e5, E⟩ := gb_some E
    refine r_getR X dX3_noteWhatHappens_11 f_X3_29 e5 ?_
    refine r_iload_n X 1 dX3_noteWhatHappens_14 rfl rfl ?_
    obtain ⟨x6, e7, E⟩ := gb_some E
    refine r_aald X 4 (by decide) rfl dX3_noteWhatHappens_15 e7 ?_
    obtain ⟨x8, e9, E⟩ := gb_some E
    refine r_getR X dX3_noteWhatHappens_16 f_X3_194 e9 ?_
    refine r_aload_n X 0 dX3_noteWhatHappens_19 rfl rfl ?_
    refine r_iload_n X 1 dX3_noteWhatHappens_20 rfl rfl ?_
    obtain ⟨u13, e14, E⟩ := gb_some E
    obtain ⟨r10, g11, e12, E⟩ := cb_some E
    refine r_callV0 X hl0 (ci := 3) dX3_noteWhatHappens_21 y_X3_activityNow m_X3_175 rfl rfl e14 (t_x3_activityNow (l := l) (G := G) e12) rfl rfl (Nat.le_of_ble_eq_true rfl) (by decide) ?_
    refine r_dup2 X dX3_noteWhatHappens_24 rfl rfl ?_
    obtain ⟨x15, e16, E⟩ := gb_some E
    refine r_iald X dX3_noteWhatHappens_25 e16 ?_
    refine r_iconst X (v := 1) dX3_noteWhatHappens_26 (by decide) ?_
    refine r_iadd X dX3_noteWhatHappens_27 ?_
    obtain ⟨g17, e18, E⟩ := gb_some E
    refine r_iast X dX3_noteWhatHappens_28 e18 ?_
    refine r_iinc X (v := (s0 + 1)) (L1 := [(1, .int (s0 + 1)), (0, .ref a0)]) dX3_noteWhatHappens_29 rfl rfl (by decide) rfl ?_
    refine r_goto X 2 dX3_noteWhatHappens_32 (by decide) ?_
    cases E
    exact r_pick (by rfl : lpick [(1, .int (s0 + 1)), (0, .ref a0)] [1, 0] = _) (hc _ rfl)
set_option maxHeartbeats 4000000 in
theorem t_x3_noteWhatHappens_l2_r {l : Launch} {G : GG} {M : MC} (X : CX M G cX3_noteWhatHappens 2 RX3 ⟨3, 0, 0, 106⟩) (hl0 : M.2.1 = l) (hr : (mM M).sig.returnType = none) (hnm : (mM M).name = yX3_noteWhatHappens.name) {Q : State → Prop} {kc ks : Nat} {a0 : Nat} : ∀ (n : Nat) (s0 : Int32) (g : AH) (t : (Unit)) (g1 : AH), loopX (x3_noteWhatHappens_l2 a0) n s0 g = some (t, g1) → WW M G 2 Q kc ks g1 35 [] [] → WW M G 2 Q kc ks g 2 [(0, .ref a0), (1, .int s0)] [] :=
  loop_cps (K := fun t g1 => WW M G 2 Q kc ks g1 35 [] []) (fun _ s0 g => WW M G 2 Q kc ks g 2 [(0, .ref a0), (1, .int s0)] []) (fun n s0 g st g1 E hc hx => t_x3_noteWhatHappens_l2 X hl0 hr hnm hc hx E)
set_option maxHeartbeats 4000000 in
set_option maxRecDepth 100000 in
theorem t_x3_noteWhatHappens_b {l : Launch} {G : GG} {M : MC} (X : CX M G cX3_noteWhatHappens 2 RX3 ⟨3, 0, 0, 106⟩) (hl0 : M.2.1 = l) (hr : (mM M).sig.returnType = none) (hnm : (mM M).name = yX3_noteWhatHappens.name) {p : Nat} {g : AH} {r : Unit} {g1 : AH} (E : x3_noteWhatHappens p g = some (r, g1)) : WW M G 2 (RQ M G none g1 0 0) 0 0 g 0 [(0, .ref p)] [] := by
  unfold x3_noteWhatHappens at E
  refine r_iconst X (v := 0) dX3_noteWhatHappens_0 (by decide) ?_
  refine r_istore_n X 1 (L1 := [(1, .int 0), (0, .ref p)]) dX3_noteWhatHappens_1 rfl (by decide) rfl ?_
  obtain ⟨t1, g2, e3, E⟩ := cb_some E
  refine r_pick (by rfl : lpick [(1, .int 0), (0, .ref p)] [1, 0] = _) (t_x3_noteWhatHappens_l2_r X hl0 hr hnm _ _ _ _ _ e3 ?_)
  cases E
  exact r_vret X hr dX3_noteWhatHappens_35 (by decide) (by decide)
theorem t_x3_noteWhatHappens {l : Launch} {G : GG} {p : Nat} {g : AH} {r : Unit} {g1 : AH} (E : x3_noteWhatHappens p g = some (r, g1)) : Ct l G yX3_noteWhatHappens cX3_noteWhatHappens 2 none ⟨3, 0, 0, 106⟩ [.ref p] g none g1 :=
  ct_of (L0 := [(0, .ref p)]) y_X3_noteWhatHappens rfl (Nat.le_of_ble_eq_true rfl) fun M hl0 X hr hnm => t_x3_noteWhatHappens_b X hl0 hr hnm E
set_option maxHeartbeats 4000000 in
set_option maxRecDepth 100000 in
theorem t_x1_payOut_j16 {l : Launch} {G : GG} {M : MC} (X : CX M G cX1_payOut 3 RX1 ⟨1, 0, 0, 60⟩) (hl0 : M.2.1 = l) (hr : (mM M).sig.returnType = (some .int)) (hnm : (mM M).name = yX1_payOut.name) {a0 : Nat} {a1 : Int32} {s0 : Int32} {g : AH} {r : Int32} {g1 : AH} (E : x1_payOut_j16 a0 a1 s0 g = some (r, g1)) : WW M G 3 (RQ M G (some (.int r)) g1 0 0) 0 0 g 16 [(0, .ref a0), (1, .int a1)] [.int s0] := by
  unfold x1_payOut_j16 at E
  refine r_istore_n X 2 (L1 := [(2, .int s0), (0, .ref a0), (1, .int a1)]) dX1_payOut_16 rfl (by decide) rfl ?_
  refine r_aload_n X 0 dX1_payOut_17 rfl rfl ?_
  refine r_dup X dX1_payOut_18 rfl ?_
  obtain ⟨x1, e2, E⟩ := gb_some E
  refine r_getI X dX1_payOut_19 f_X1_28 e2 ?_
  refine r_iload_n X 2 dX1_payOut_22 rfl rfl ?_
  refine r_isub X dX1_payOut_23 ?_
  obtain ⟨g3, e4, E⟩ := gb_some E
  refine r_put X dX1_payOut_24 f_X1_28 rfl rfl e4 ?_
  refine r_aload_n X 0 dX1_payOut_27 rfl rfl ?_
  refine r_dup X dX1_payOut_28 rfl ?_
  obtain ⟨x5, e6, E⟩ := gb_some E
  refine r_getI X dX1_payOut_29 f_X1_31 e6 ?_
  refine r_iload_n X 1 dX1_payOut_32 rfl rfl ?_
  refine r_iload_n X 2 dX1_payOut_33 rfl rfl ?_
  refine r_isub X dX1_payOut_34 ?_
  refine r_iadd X dX1_payOut_35 ?_
  obtain ⟨g7, e8, E⟩ := gb_some E
  refine r_put X dX1_payOut_36 f_X1_31 rfl rfl e8 ?_
  refine r_iload_n X 2 dX1_payOut_39 rfl rfl ?_
  cases E
  exact r_iret X hr dX1_payOut_40 (by decide) (by decide)
set_option maxHeartbeats 4000000 in
set_option maxRecDepth 100000 in
theorem t_x1_payOut_b {l : Launch} {G : GG} {M : MC} (X : CX M G cX1_payOut 3 RX1 ⟨1, 0, 0, 60⟩) (hl0 : M.2.1 = l) (hr : (mM M).sig.returnType = (some .int)) (hnm : (mM M).name = yX1_payOut.name) {p : Nat} {b0 : Int32} {g : AH} {r : Int32} {g1 : AH} (E : x1_payOut p b0 g = some (r, g1)) : WW M G 3 (RQ M G (some (.int r)) g1 0 0) 0 0 g 0 [(0, .ref p), (1, .int b0)] [] := by
  unfold x1_payOut at E
  refine r_iload_n X 1 dX1_payOut_0 rfl rfl ?_
  refine r_aload_n X 0 dX1_payOut_1 rfl rfl ?_
  obtain ⟨x1, e2, E⟩ := gb_some E
  refine r_getI X dX1_payOut_2 f_X1_28 e2 ?_
  refine r_icmp_ge X 12 dX1_payOut_5 (by decide) (fun c3 => ?_) (fun c3 => ?_)
  · rw [if_pos c3] at E
    refine r_aload_n X 0 dX1_payOut_12 rfl rfl ?_
    obtain ⟨x4, e5, E⟩ := gb_some E
    refine r_getI X dX1_payOut_13 f_X1_28 e5 ?_
    exact r_pick (by rfl : lpick [(0, .ref p), (1, .int b0)] [0, 1] = _) (t_x1_payOut_j16 X hl0 hr hnm E)
  · rw [if_neg c3] at E
    refine r_iload_n X 1 dX1_payOut_8 rfl rfl ?_
    refine r_goto X 16 dX1_payOut_9 (by decide) ?_
    exact r_pick (by rfl : lpick [(0, .ref p), (1, .int b0)] [0, 1] = _) (t_x1_payOut_j16 X hl0 hr hnm E)
theorem t_x1_payOut {l : Launch} {G : GG} {p : Nat} {b0 : Int32} {g : AH} {r : Int32} {g1 : AH} (E : x1_payOut p b0 g = some (r, g1)) : Ct l G yX1_payOut cX1_payOut 3 (some .int) ⟨1, 0, 0, 60⟩ [.ref p, .int b0] g (some (.int r)) g1 :=
  ct_of (L0 := [(0, .ref p), (1, .int b0)]) y_X1_payOut rfl (Nat.le_of_ble_eq_true rfl) fun M hl0 X hr hnm => t_x1_payOut_b X hl0 hr hnm E
set_option maxHeartbeats 4000000 in
set_option maxRecDepth 100000 in
theorem t_x3_payForNight_l2 {l : Launch} {G : GG} {M : MC} (X : CX M G cX3_payForNight 2 RX3 ⟨2, 0, 0, 82⟩) (hl0 : M.2.1 = l) (hr : (mM M).sig.returnType = none) (hnm : (mM M).name = yX3_payForNight.name) {Q : State → Prop} {kc ks : Nat} {s9 : ((Int32) ⊕ (Unit))} {g1 : AH} {a0 : Nat} {s0 : Int32} (hc : ∀ s1, s9 = .inl s1 → WW M G 2 Q kc ks g1 2 [(0, .ref a0), (1, .int s1)] []) (hx : ∀ t, s9 = .inr t → WW M G 2 Q kc ks g1 35 [] []) {g : AH} (E : x3_payForNight_l2 a0 s0 g = some (s9, g1)) : WW M G 2 Q kc ks g 2 [(0, .ref a0), (1, .int s0)] [] := by
  unfold x3_payForNight_l2 at E
  refine r_iload_n X 1 dX3_payForNight_2 rfl rfl ?_
  refine r_aload_n X 0 dX3_payForNight_3 rfl rfl ?_
  obtain ⟨x1, e2, E⟩ := gb_some E
  refine r_getI X dX3_payForNight_4 f_X3_78 e2 ?_
  refine r_icmp_ge X 35 dX3_payForNight_7 (by decide) (fun c3 => ?_) (fun c3 => ?_)
  · rw [if_pos c3] at E
    cases E
    exact r_pick (by rfl : lpick [(0, .ref a0), (1, .int s0)] [] = _) (hx _ rfl)
  · rw [if_neg c3] at E
    refine r_aload_n X 0 dX3_payForNight_10 rfl rfl ?_
    refine r_dup X dX3_payForNight_11 rfl ?_
    obtain ⟨x4, e5, E⟩ := gb_some E
    refine r_getI X dX3_payForNight_12 f_X3_60 e5 ?_
    refine r_aload_n X 0 dX3_payForNight_15 rfl rfl ?_
    obtain ⟨x6, e7, E⟩ := gb_some E
    refine r_getR X dX3_payForNight_16 f_X3_29 e7 ?_
    refine r_iload_n X 1 dX3_payForNight_19 rfl rfl ?_
    obtain ⟨x8, e9, E⟩ := gb_some E
    refine r_aald X 4 (by decide) rfl dX3_payForNight_20 e9 ?_
    refine r_iconst X (v := 3) dX3_payForNight_21 (by decide) ?_
    obtain ⟨u13, e14, E⟩ := gb_some E
    obtain ⟨r10, g11, e12, E⟩ := cb_some E
    refine r_callV0 X hl0 (ci := 1) dX3_payForNight_22 y_X1_payOut m_X3_215 rfl rfl e14 (t_x1_payOut (l := l) (G := G) e12) rfl rfl (Nat.le_of_ble_eq_true rfl) (by decide) ?_
    refine r_iadd X dX3_payForNight_25 ?_
    obtain ⟨g15, e16, E⟩ := gb_some E
    refine r_put X dX3_payForNight_26 f_X3_60 rfl rfl e16 ?_
    refine r_iinc X (v := (s0 + 1)) (L1 := [(1, .int (s0 + 1)), (0, .ref a0)]) dX3_payForNight_29 rfl rfl (by decide) rfl ?_
    refine r_goto X 2 dX3_payForNight_32 (by decide) ?_
    cases E
    exact r_pick (by rfl : lpick [(1, .int (s0 + 1)), (0, .ref a0)] [1, 0] = _) (hc _ rfl)
set_option maxHeartbeats 4000000 in
theorem t_x3_payForNight_l2_r {l : Launch} {G : GG} {M : MC} (X : CX M G cX3_payForNight 2 RX3 ⟨2, 0, 0, 82⟩) (hl0 : M.2.1 = l) (hr : (mM M).sig.returnType = none) (hnm : (mM M).name = yX3_payForNight.name) {Q : State → Prop} {kc ks : Nat} {a0 : Nat} : ∀ (n : Nat) (s0 : Int32) (g : AH) (t : (Unit)) (g1 : AH), loopX (x3_payForNight_l2 a0) n s0 g = some (t, g1) → WW M G 2 Q kc ks g1 35 [] [] → WW M G 2 Q kc ks g 2 [(0, .ref a0), (1, .int s0)] [] :=
  loop_cps (K := fun t g1 => WW M G 2 Q kc ks g1 35 [] []) (fun _ s0 g => WW M G 2 Q kc ks g 2 [(0, .ref a0), (1, .int s0)] []) (fun n s0 g st g1 E hc hx => t_x3_payForNight_l2 X hl0 hr hnm hc hx E)
set_option maxHeartbeats 4000000 in
set_option maxRecDepth 100000 in
theorem t_x3_payForNight_b {l : Launch} {G : GG} {M : MC} (X : CX M G cX3_payForNight 2 RX3 ⟨2, 0, 0, 82⟩) (hl0 : M.2.1 = l) (hr : (mM M).sig.returnType = none) (hnm : (mM M).name = yX3_payForNight.name) {p : Nat} {g : AH} {r : Unit} {g1 : AH} (E : x3_payForNight p g = some (r, g1)) : WW M G 2 (RQ M G none g1 0 0) 0 0 g 0 [(0, .ref p)] [] := by
  unfold x3_payForNight at E
  refine r_iconst X (v := 0) dX3_payForNight_0 (by decide) ?_
  refine r_istore_n X 1 (L1 := [(1, .int 0), (0, .ref p)]) dX3_payForNight_1 rfl (by decide) rfl ?_
  obtain ⟨t1, g2, e3, E⟩ := cb_some E
  refine r_pick (by rfl : lpick [(1, .int 0), (0, .ref p)] [1, 0] = _) (t_x3_payForNight_l2_r X hl0 hr hnm _ _ _ _ _ e3 ?_)
  cases E
  exact r_vret X hr dX3_payForNight_35 (by decide) (by decide)
theorem t_x3_payForNight {l : Launch} {G : GG} {p : Nat} {g : AH} {r : Unit} {g1 : AH} (E : x3_payForNight p g = some (r, g1)) : Ct l G yX3_payForNight cX3_payForNight 2 none ⟨2, 0, 0, 82⟩ [.ref p] g none g1 :=
  ct_of (L0 := [(0, .ref p)]) y_X3_payForNight rfl (Nat.le_of_ble_eq_true rfl) fun M hl0 X hr hnm => t_x3_payForNight_b X hl0 hr hnm E
set_option maxHeartbeats 4000000 in
set_option maxRecDepth 100000 in
theorem t_x3_partOfLogs_j32 {l : Launch} {G : GG} {M : MC} (X : CX M G cX3_partOfLogs 4 RX3 ⟨1, 0, 0, 60⟩) (hl0 : M.2.1 = l) (hr : (mM M).sig.returnType = (some .int)) (hnm : (mM M).name = yX3_partOfLogs.name) {a0 : Nat} {a2 : Int32} {s0 : Int32} {g : AH} {r : Int32} {g1 : AH} (E : x3_partOfLogs_j32 a0 a2 s0 g = some (r, g1)) : WW M G 4 (RQ M G (some (.int r)) g1 0 0) 0 0 g 32 [(0, .ref a0), (2, .int a2)] [.int s0] := by
  unfold x3_partOfLogs_j32 at E
  refine r_istore_n X 3 (L1 := [(3, .int s0), (0, .ref a0), (2, .int a2)]) dX3_partOfLogs_32 rfl (by decide) rfl ?_
  refine r_iload_n X 2 dX3_partOfLogs_33 rfl rfl ?_
  refine r_aload_n X 0 dX3_partOfLogs_34 rfl rfl ?_
  obtain ⟨x1, e2, E⟩ := gb_some E
  refine r_getI X dX3_partOfLogs_35 f_X3_78 e2 ?_
  by_cases c3 : x1 = 0
  · rw [if_pos c3] at E; cases E
  rw [if_neg c3] at E
  refine r_idiv X dX3_partOfLogs_38 c3 ?_
  refine r_iload_n X 3 dX3_partOfLogs_39 rfl rfl ?_
  refine r_iadd X dX3_partOfLogs_40 ?_
  cases E
  exact r_iret X hr dX3_partOfLogs_41 (by decide) (by decide)
set_option maxHeartbeats 4000000 in
set_option maxRecDepth 100000 in
theorem t_x3_partOfLogs_b {l : Launch} {G : GG} {M : MC} (X : CX M G cX3_partOfLogs 4 RX3 ⟨1, 0, 0, 60⟩) (hl0 : M.2.1 = l) (hr : (mM M).sig.returnType = (some .int)) (hnm : (mM M).name = yX3_partOfLogs.name) {p : Nat} {b0 : Int32} {g : AH} {r : Int32} {g1 : AH} (E : x3_partOfLogs p b0 g = some (r, g1)) : WW M G 4 (RQ M G (some (.int r)) g1 0 0) 0 0 g 0 [(0, .ref p), (1, .int b0)] [] := by
  unfold x3_partOfLogs at E
  refine r_aload_n X 0 dX3_partOfLogs_0 rfl rfl ?_
  obtain ⟨x1, e2, E⟩ := gb_some E
  refine r_getI X dX3_partOfLogs_1 f_X3_78 e2 ?_
  refine r_iconst X (v := 1) dX3_partOfLogs_4 (by decide) ?_
  refine r_icmp_ge X 10 dX3_partOfLogs_5 (by decide) (fun c3 => ?_) (fun c3 => ?_)
  · rw [if_pos c3] at E
    refine r_iconst X (v := 2) dX3_partOfLogs_10 (by decide) ?_
    refine r_aload_n X 0 dX3_partOfLogs_11 rfl rfl ?_
    obtain ⟨x4, e5, E⟩ := gb_some E
    refine r_getI X dX3_partOfLogs_12 f_X3_66 e5 ?_
    refine r_imul X dX3_partOfLogs_15 ?_
    refine r_istore_n X 2 (L1 := [(2, .int (2 * x4)), (0, .ref p), (1, .int b0)]) dX3_partOfLogs_16 rfl (by decide) rfl ?_
    refine r_iload_n X 1 dX3_partOfLogs_17 rfl rfl ?_
    refine r_iload_n X 2 dX3_partOfLogs_18 rfl rfl ?_
    refine r_aload_n X 0 dX3_partOfLogs_19 rfl rfl ?_
    obtain ⟨x6, e7, E⟩ := gb_some E
    refine r_getI X dX3_partOfLogs_20 f_X3_78 e7 ?_
    by_cases c8 : x6 = 0
    · rw [if_pos c8] at E; cases E
    rw [if_neg c8] at E
    refine r_irem X dX3_partOfLogs_23 c8 ?_
    refine r_icmp_ge X 31 dX3_partOfLogs_24 (by decide) (fun c9 => ?_) (fun c9 => ?_)
    · rw [if_pos c9] at E
      refine r_iconst X (v := 0) dX3_partOfLogs_31 (by decide) ?_
      exact r_pick (by rfl : lpick [(2, .int (2 * x4)), (0, .ref p), (1, .int b0)] [1, 0] = _) (t_x3_partOfLogs_j32 X hl0 hr hnm E)
    · rw [if_neg c9] at E
      refine r_iconst X (v := 1) dX3_partOfLogs_27 (by decide) ?_
      refine r_goto X 32 dX3_partOfLogs_28 (by decide) ?_
      exact r_pick (by rfl : lpick [(2, .int (2 * x4)), (0, .ref p), (1, .int b0)] [1, 0] = _) (t_x3_partOfLogs_j32 X hl0 hr hnm E)
  · rw [if_neg c3] at E
    refine r_iconst X (v := 0) dX3_partOfLogs_8 (by decide) ?_
    cases E
    exact r_iret X hr dX3_partOfLogs_9 (by decide) (by decide)
theorem t_x3_partOfLogs {l : Launch} {G : GG} {p : Nat} {b0 : Int32} {g : AH} {r : Int32} {g1 : AH} (E : x3_partOfLogs p b0 g = some (r, g1)) : Ct l G yX3_partOfLogs cX3_partOfLogs 4 (some .int) ⟨1, 0, 0, 60⟩ [.ref p, .int b0] g (some (.int r)) g1 :=
  ct_of (L0 := [(0, .ref p), (1, .int b0)]) y_X3_partOfLogs rfl (Nat.le_of_ble_eq_true rfl) fun M hl0 X hr hnm => t_x3_partOfLogs_b X hl0 hr hnm E
set_option maxHeartbeats 4000000 in
set_option maxRecDepth 100000 in
theorem t_x3_payForLogs_l2 {l : Launch} {G : GG} {M : MC} (X : CX M G cX3_payForLogs 2 RX3 ⟨2, 0, 0, 83⟩) (hl0 : M.2.1 = l) (hr : (mM M).sig.returnType = none) (hnm : (mM M).name = yX3_payForLogs.name) {Q : State → Prop} {kc ks : Nat} {s9 : ((Int32) ⊕ (Unit))} {g1 : AH} {a0 : Nat} {s0 : Int32} (hc : ∀ s1, s9 = .inl s1 → WW M G 2 Q kc ks g1 2 [(0, .ref a0), (1, .int s1)] []) (hx : ∀ t, s9 = .inr t → WW M G 2 Q kc ks g1 39 [(0, .ref a0)] []) {g : AH} (E : x3_payForLogs_l2 a0 s0 g = some (s9, g1)) : WW M G 2 Q kc ks g 2 [(0, .ref a0), (1, .int s0)] [] := by
  unfold x3_payForLogs_l2 at E
  refine r_iload_n X 1 dX3_payForLogs_2 rfl rfl ?_
  refine r_aload_n X 0 dX3_payForLogs_3 rfl rfl ?_
  obtain ⟨x1, e2, E⟩ := gb_some E
  refine r_getI X dX3_payForLogs_4 f_X3_78 e2 ?_
  refine r_icmp_ge X 39 dX3_payForLogs_7 (by decide) (fun c3 => ?_) (fun c3 => ?_)
  · rw [if_pos c3] at E
    cases E
    exact r_pick (by rfl : lpick [(0, .ref a0), (1, .int s0)] [0] = _) (hx _ rfl)
  · rw [if_neg c3] at E
    refine r_aload_n X 0 dX3_payForLogs_10 rfl rfl ?_
    refine r_dup X dX3_payForLogs_11 rfl ?_
    obtain ⟨x4, e5, E⟩ := gb_some E
    refine r_getI X dX3_payForLogs_12 f_X3_60 e5 ?_
    refine r_aload_n X 0 dX3_payForLogs_15 rfl rfl ?_
    obtain ⟨x6, e7, E⟩ := gb_some E
    refine r_getR X dX3_payForLogs_16 f_X3_29 e7 ?_
    refine r_iload_n X 1 dX3_payForLogs_19 rfl rfl ?_
    obtain ⟨x8, e9, E⟩ := gb_some E
    refine r_aald X 4 (by decide) rfl dX3_payForLogs_20 e9 ?_
    refine r_aload_n X 0 dX3_payForLogs_21 rfl rfl ?_
    refine r_iload_n X 1 dX3_payForLogs_22 rfl rfl ?_
    obtain ⟨u13, e14, E⟩ := gb_some E
    obtain ⟨r10, g11, e12, E⟩ := cb_some E
    refine r_callV0 X hl0 (ci := 3) dX3_payForLogs_23 y_X3_partOfLogs m_X3_218 rfl rfl e14 (t_x3_partOfLogs (l := l) (G := G) e12) rfl rfl (Nat.le_of_ble_eq_true rfl) (by decide) ?_
    obtain ⟨u18, e19, E⟩ := gb_some E
    obtain ⟨r15, g16, e17, E⟩ := cb_some E
    refine r_callV0 X hl0 (ci := 1) dX3_payForLogs_26 y_X1_payOut m_X3_215 rfl rfl e19 (t_x1_payOut (l := l) (G := G) e17) rfl rfl (Nat.le_of_ble_eq_true rfl) (by decide) ?_
    refine r_iadd X dX3_payForLogs_29 ?_
    obtain ⟨g20, e21, E⟩ := gb_some E
    refine r_put X dX3_payForLogs_30 f_X3_60 rfl rfl e21 ?_
    refine r_iinc X (v := (s0 + 1)) (L1 := [(1, .int (s0 + 1)), (0, .ref a0)]) dX3_payForLogs_33 rfl rfl (by decide) rfl ?_
    refine r_goto X 2 dX3_payForLogs_36 (by decide) ?_
    cases E
    exact r_pick (by rfl : lpick [(1, .int (s0 + 1)), (0, .ref a0)] [1, 0] = _) (hc _ rfl)
set_option maxHeartbeats 4000000 in
theorem t_x3_payForLogs_l2_r {l : Launch} {G : GG} {M : MC} (X : CX M G cX3_payForLogs 2 RX3 ⟨2, 0, 0, 83⟩) (hl0 : M.2.1 = l) (hr : (mM M).sig.returnType = none) (hnm : (mM M).name = yX3_payForLogs.name) {Q : State → Prop} {kc ks : Nat} {a0 : Nat} : ∀ (n : Nat) (s0 : Int32) (g : AH) (t : (Unit)) (g1 : AH), loopX (x3_payForLogs_l2 a0) n s0 g = some (t, g1) → WW M G 2 Q kc ks g1 39 [(0, .ref a0)] [] → WW M G 2 Q kc ks g 2 [(0, .ref a0), (1, .int s0)] [] :=
  loop_cps (K := fun t g1 => WW M G 2 Q kc ks g1 39 [(0, .ref a0)] []) (fun _ s0 g => WW M G 2 Q kc ks g 2 [(0, .ref a0), (1, .int s0)] []) (fun n s0 g st g1 E hc hx => t_x3_payForLogs_l2 X hl0 hr hnm hc hx E)
set_option maxHeartbeats 4000000 in
set_option maxRecDepth 100000 in
theorem t_x3_payForLogs_b {l : Launch} {G : GG} {M : MC} (X : CX M G cX3_payForLogs 2 RX3 ⟨2, 0, 0, 83⟩) (hl0 : M.2.1 = l) (hr : (mM M).sig.returnType = none) (hnm : (mM M).name = yX3_payForLogs.name) {p : Nat} {g : AH} {r : Unit} {g1 : AH} (E : x3_payForLogs p g = some (r, g1)) : WW M G 2 (RQ M G none g1 0 0) 0 0 g 0 [(0, .ref p)] [] := by
  unfold x3_payForLogs at E
  refine r_iconst X (v := 0) dX3_payForLogs_0 (by decide) ?_
  refine r_istore_n X 1 (L1 := [(1, .int 0), (0, .ref p)]) dX3_payForLogs_1 rfl (by decide) rfl ?_
  obtain ⟨t1, g2, e3, E⟩ := cb_some E
  refine r_pick (by rfl : lpick [(1, .int 0), (0, .ref p)] [1, 0] = _) (t_x3_payForLogs_l2_r X hl0 hr hnm _ _ _ _ _ e3 ?_)
  refine r_aload_n X 0 dX3_payForLogs_39 rfl rfl ?_
  refine r_iconst X (v := 0) dX3_payForLogs_40 (by decide) ?_
  obtain ⟨g4, e5, E⟩ := gb_some E
  refine r_put X dX3_payForLogs_41 f_X3_66 rfl rfl e5 ?_
  cases E
  exact r_vret X hr dX3_payForLogs_44 (by decide) (by decide)
theorem t_x3_payForLogs {l : Launch} {G : GG} {p : Nat} {g : AH} {r : Unit} {g1 : AH} (E : x3_payForLogs p g = some (r, g1)) : Ct l G yX3_payForLogs cX3_payForLogs 2 none ⟨2, 0, 0, 83⟩ [.ref p] g none g1 :=
  ct_of (L0 := [(0, .ref p)]) y_X3_payForLogs rfl (Nat.le_of_ble_eq_true rfl) fun M hl0 X hr hnm => t_x3_payForLogs_b X hl0 hr hnm E
set_option maxHeartbeats 4000000 in
set_option maxRecDepth 100000 in
theorem t_x1_feeForBlanket_b {l : Launch} {G : GG} {M : MC} (X : CX M G cX1_feeForBlanket 1 RX1 ⟨1, 0, 0, 60⟩) (hl0 : M.2.1 = l) (hr : (mM M).sig.returnType = (some .int)) (hnm : (mM M).name = yX1_feeForBlanket.name) {p : Nat} {g : AH} {r : Int32} {g1 : AH} (E : x1_feeForBlanket p g = some (r, g1)) : WW M G 1 (RQ M G (some (.int r)) g1 0 0) 0 0 g 0 [(0, .ref p)] [] := by
  unfold x1_feeForBlanket at E
  refine r_aload_n X 0 dX1_feeForBlanket_0 rfl rfl ?_
  obtain ⟨x1, e2, E⟩ := gb_some E
  refine r_getI X dX1_feeForBlanket_1 f_X1_34 e2 ?_
  refine r_iconst X (v := 2) dX1_feeForBlanket_4 (by decide) ?_
  refine r_iadd X dX1_feeForBlanket_5 ?_
  refine r_iconst X (v := 3) dX1_feeForBlanket_6 (by decide) ?_
  refine r_idiv X dX1_feeForBlanket_7 (by decide) ?_
  cases E
  exact r_iret X hr dX1_feeForBlanket_8 (by decide) (by decide)
theorem t_x1_feeForBlanket {l : Launch} {G : GG} {p : Nat} {g : AH} {r : Int32} {g1 : AH} (E : x1_feeForBlanket p g = some (r, g1)) : Ct l G yX1_feeForBlanket cX1_feeForBlanket 1 (some .int) ⟨1, 0, 0, 60⟩ [.ref p] g (some (.int r)) g1 :=
  ct_of (L0 := [(0, .ref p)]) y_X1_feeForBlanket rfl (Nat.le_of_ble_eq_true rfl) fun M hl0 X hr hnm => t_x1_feeForBlanket_b X hl0 hr hnm E
set_option maxHeartbeats 4000000 in
set_option maxRecDepth 100000 in
theorem t_x3_hikersWithoutBlanket_j28_4 {l : Launch} {G : GG} {M : MC} (X : CX M G cX3_hikersWithoutBlanket 3 RX3 ⟨1, 0, 0, 60⟩) (hl0 : M.2.1 = l) (hr : (mM M).sig.returnType = (some .int)) (hnm : (mM M).name = yX3_hikersWithoutBlanket.name) {Q : State → Prop} {kc ks : Nat} {s9 : ((Int32 × Int32) ⊕ (Int32))} {g1 : AH} {a0 : Nat} {a1 : Int32} {a2 : Int32} (hc : ∀ s1, s9 = .inl s1 → WW M G 3 Q kc ks g1 4 [(0, .ref a0), (1, .int s1.1), (2, .int s1.2)] []) (hx : ∀ t, s9 = .inr t → WW M G 3 Q kc ks g1 34 [(1, .int t)] []) {g : AH} (E : x3_hikersWithoutBlanket_j28_4 a0 a1 a2 g = some (s9, g1)) : WW M G 3 Q kc ks g 28 [(0, .ref a0), (1, .int a1), (2, .int a2)] [] := by
  unfold x3_hikersWithoutBlanket_j28_4 at E
  refine r_iinc X (v := (a2 + 1)) (L1 := [(2, .int (a2 + 1)), (0, .ref a0), (1, .int a1)]) dX3_hikersWithoutBlanket_28 rfl rfl (by decide) rfl ?_
  refine r_goto X 4 dX3_hikersWithoutBlanket_31 (by decide) ?_
  cases E
  exact r_pick (by rfl : lpick [(2, .int (a2 + 1)), (0, .ref a0), (1, .int a1)] [1, 2, 0] = _) (hc _ rfl)
set_option maxHeartbeats 4000000 in
set_option maxRecDepth 100000 in
theorem t_x3_hikersWithoutBlanket_l4 {l : Launch} {G : GG} {M : MC} (X : CX M G cX3_hikersWithoutBlanket 3 RX3 ⟨1, 0, 0, 60⟩) (hl0 : M.2.1 = l) (hr : (mM M).sig.returnType = (some .int)) (hnm : (mM M).name = yX3_hikersWithoutBlanket.name) {Q : State → Prop} {kc ks : Nat} {s9 : ((Int32 × Int32) ⊕ (Int32))} {g1 : AH} {a0 : Nat} {s0 : Int32 × Int32} (hc : ∀ s1, s9 = .inl s1 → WW M G 3 Q kc ks g1 4 [(0, .ref a0), (1, .int s1.1), (2, .int s1.2)] []) (hx : ∀ t, s9 = .inr t → WW M G 3 Q kc ks g1 34 [(1, .int t)] []) {g : AH} (E : x3_hikersWithoutBlanket_l4 a0 s0 g = some (s9, g1)) : WW M G 3 Q kc ks g 4 [(0, .ref a0), (1, .int s0.1), (2, .int s0.2)] [] := by
  unfold x3_hikersWithoutBlanket_l4 at E
  refine r_iload_n X 2 dX3_hikersWithoutBlanket_4 rfl rfl ?_
  refine r_aload_n X 0 dX3_hikersWithoutBlanket_5 rfl rfl ?_
  obtain ⟨x1, e2, E⟩ := gb_some E
  refine r_getI X dX3_hikersWithoutBlanket_6 f_X3_78 e2 ?_
  refine r_icmp_ge X 34 dX3_hikersWithoutBlanket_9 (by decide) (fun c3 => ?_) (fun c3 => ?_)
  · rw [if_pos c3] at E
    cases E
    exact r_pick (by rfl : lpick [(0, .ref a0), (1, .int s0.1), (2, .int s0.2)] [1] = _) (hx _ rfl)
  · rw [if_neg c3] at E
    refine r_aload_n X 0 dX3_hikersWithoutBlanket_12 rfl rfl ?_
    obtain ⟨x4, e5, E⟩ := gb_some E
    refine r_getR X dX3_hikersWithoutBlanket_13 f_X3_29 e5 ?_
    refine r_iload_n X 2 dX3_hikersWithoutBlanket_16 rfl rfl ?_
    obtain ⟨x6, e7, E⟩ := gb_some E
    refine r_aald X 4 (by decide) rfl dX3_hikersWithoutBlanket_17 e7 ?_
    obtain ⟨x8, e9, E⟩ := gb_some E
    refine r_getI X dX3_hikersWithoutBlanket_18 f_X3_94 e9 ?_
    refine r_iconst X (v := (-1)) dX3_hikersWithoutBlanket_21 (by decide) ?_
    refine r_icmp_ne X 28 dX3_hikersWithoutBlanket_22 (by decide) (fun c10 => ?_) (fun c10 => ?_)
    · rw [if_neg c10] at E
      exact r_pick (by rfl : lpick [(0, .ref a0), (1, .int s0.1), (2, .int s0.2)] [0, 1, 2] = _) (t_x3_hikersWithoutBlanket_j28_4 X hl0 hr hnm hc hx E)
    · rw [if_pos c10] at E
      refine r_iinc X (v := (s0.1 + 1)) (L1 := [(1, .int (s0.1 + 1)), (0, .ref a0), (2, .int s0.2)]) dX3_hikersWithoutBlanket_25 rfl rfl (by decide) rfl ?_
      exact r_pick (by rfl : lpick [(1, .int (s0.1 + 1)), (0, .ref a0), (2, .int s0.2)] [1, 0, 2] = _) (t_x3_hikersWithoutBlanket_j28_4 X hl0 hr hnm hc hx E)
set_option maxHeartbeats 4000000 in
theorem t_x3_hikersWithoutBlanket_l4_r {l : Launch} {G : GG} {M : MC} (X : CX M G cX3_hikersWithoutBlanket 3 RX3 ⟨1, 0, 0, 60⟩) (hl0 : M.2.1 = l) (hr : (mM M).sig.returnType = (some .int)) (hnm : (mM M).name = yX3_hikersWithoutBlanket.name) {Q : State → Prop} {kc ks : Nat} {a0 : Nat} : ∀ (n : Nat) (s0 : Int32 × Int32) (g : AH) (t : (Int32)) (g1 : AH), loopX (x3_hikersWithoutBlanket_l4 a0) n s0 g = some (t, g1) → WW M G 3 Q kc ks g1 34 [(1, .int t)] [] → WW M G 3 Q kc ks g 4 [(0, .ref a0), (1, .int s0.1), (2, .int s0.2)] [] :=
  loop_cps (K := fun t g1 => WW M G 3 Q kc ks g1 34 [(1, .int t)] []) (fun _ s0 g => WW M G 3 Q kc ks g 4 [(0, .ref a0), (1, .int s0.1), (2, .int s0.2)] []) (fun n s0 g st g1 E hc hx => t_x3_hikersWithoutBlanket_l4 X hl0 hr hnm hc hx E)
set_option maxHeartbeats 4000000 in
set_option maxRecDepth 100000 in
theorem t_x3_hikersWithoutBlanket_b {l : Launch} {G : GG} {M : MC} (X : CX M G cX3_hikersWithoutBlanket 3 RX3 ⟨1, 0, 0, 60⟩) (hl0 : M.2.1 = l) (hr : (mM M).sig.returnType = (some .int)) (hnm : (mM M).name = yX3_hikersWithoutBlanket.name) {p : Nat} {g : AH} {r : Int32} {g1 : AH} (E : x3_hikersWithoutBlanket p g = some (r, g1)) : WW M G 3 (RQ M G (some (.int r)) g1 0 0) 0 0 g 0 [(0, .ref p)] [] := by
  unfold x3_hikersWithoutBlanket at E
  refine r_iconst X (v := 0) dX3_hikersWithoutBlanket_0 (by decide) ?_
  refine r_istore_n X 1 (L1 := [(1, .int 0), (0, .ref p)]) dX3_hikersWithoutBlanket_1 rfl (by decide) rfl ?_
  refine r_iconst X (v := 0) dX3_hikersWithoutBlanket_2 (by decide) ?_
  refine r_istore_n X 2 (L1 := [(2, .int 0), (1, .int 0), (0, .ref p)]) dX3_hikersWithoutBlanket_3 rfl (by decide) rfl ?_
  obtain ⟨t1, g2, e3, E⟩ := cb_some E
  refine r_pick (by rfl : lpick [(2, .int 0), (1, .int 0), (0, .ref p)] [2, 1, 0] = _) (t_x3_hikersWithoutBlanket_l4_r X hl0 hr hnm _ _ _ _ _ e3 ?_)
  refine r_iload_n X 1 dX3_hikersWithoutBlanket_34 rfl rfl ?_
  cases E
  exact r_iret X hr dX3_hikersWithoutBlanket_35 (by decide) (by decide)
theorem t_x3_hikersWithoutBlanket {l : Launch} {G : GG} {p : Nat} {g : AH} {r : Int32} {g1 : AH} (E : x3_hikersWithoutBlanket p g = some (r, g1)) : Ct l G yX3_hikersWithoutBlanket cX3_hikersWithoutBlanket 3 (some .int) ⟨1, 0, 0, 60⟩ [.ref p] g (some (.int r)) g1 :=
  ct_of (L0 := [(0, .ref p)]) y_X3_hikersWithoutBlanket rfl (Nat.le_of_ble_eq_true rfl) fun M hl0 X hr hnm => t_x3_hikersWithoutBlanket_b X hl0 hr hnm E
set_option maxHeartbeats 4000000 in
set_option maxRecDepth 100000 in
theorem t_x3_payForBlankets_l4 {l : Launch} {G : GG} {M : MC} (X : CX M G cX3_payForBlankets 5 RX3 ⟨2, 0, 0, 82⟩) (hl0 : M.2.1 = l) (hr : (mM M).sig.returnType = none) (hnm : (mM M).name = yX3_payForBlankets.name) {Q : State → Prop} {kc ks : Nat} {s9 : ((Int32 × Int32) ⊕ (Int32))} {g1 : AH} {a0 : Nat} {s0 : Int32 × Int32} (hc : ∀ s1, s9 = .inl s1 → WW M G 5 Q kc ks g1 4 [(0, .ref a0), (1, .int s1.1), (2, .int s1.2)] []) (hx : ∀ t, s9 = .inr t → WW M G 5 Q kc ks g1 39 [(0, .ref a0), (1, .int t)] []) {g : AH} (E : x3_payForBlankets_l4 a0 s0 g = some (s9, g1)) : WW M G 5 Q kc ks g 4 [(0, .ref a0), (1, .int s0.1), (2, .int s0.2)] [] := by
  unfold x3_payForBlankets_l4 at E
  refine r_iload_n X 2 dX3_payForBlankets_4 rfl rfl ?_
  refine r_aload_n X 0 dX3_payForBlankets_5 rfl rfl ?_
  obtain ⟨x1, e2, E⟩ := gb_some E
  refine r_getI X dX3_payForBlankets_6 f_X3_78 e2 ?_
  refine r_icmp_ge X 39 dX3_payForBlankets_9 (by decide) (fun c3 => ?_) (fun c3 => ?_)
  · rw [if_pos c3] at E
    cases E
    exact r_pick (by rfl : lpick [(0, .ref a0), (1, .int s0.1), (2, .int s0.2)] [0, 1] = _) (hx _ rfl)
  · rw [if_neg c3] at E
    refine r_iload_n X 1 dX3_payForBlankets_12 rfl rfl ?_
    refine r_aload_n X 0 dX3_payForBlankets_13 rfl rfl ?_
    obtain ⟨x4, e5, E⟩ := gb_some E
    refine r_getR X dX3_payForBlankets_14 f_X3_29 e5 ?_
    refine r_iload_n X 2 dX3_payForBlankets_17 rfl rfl ?_
    obtain ⟨x6, e7, E⟩ := gb_some E
    refine r_aald X 4 (by decide) rfl dX3_payForBlankets_18 e7 ?_
    refine r_aload_n X 0 dX3_payForBlankets_19 rfl rfl ?_
    obtain ⟨x8, e9, E⟩ := gb_some E
    refine r_getR X dX3_payForBlankets_20 f_X3_29 e9 ?_
    refine r_iload_n X 2 dX3_payForBlankets_23 rfl rfl ?_
    obtain ⟨x10, e11, E⟩ := gb_some E
    refine r_aald X 4 (by decide) rfl dX3_payForBlankets_24 e11 ?_
    obtain ⟨u15, e16, E⟩ := gb_some E
    obtain ⟨r12, g13, e14, E⟩ := cb_some E
    refine r_callV0 X hl0 (ci := 1) dX3_payForBlankets_25 y_X1_feeForBlanket m_X3_221 rfl rfl e16 (t_x1_feeForBlanket (l := l) (G := G) e14) rfl rfl (Nat.le_of_ble_eq_true rfl) (by decide) ?_
    obtain ⟨u20, e21, E⟩ := gb_some E
    obtain ⟨r17, g18, e19, E⟩ := cb_some E
    refine r_callV0 X hl0 (ci := 1) dX3_payForBlankets_28 y_X1_payOut m_X3_215 rfl rfl e21 (t_x1_payOut (l := l) (G := G) e19) rfl rfl (Nat.le_of_ble_eq_true rfl) (by decide) ?_
    refine r_iadd X dX3_payForBlankets_31 ?_
    refine r_istore_n X 1 (L1 := [(1, .int (s0.1 + r17)), (0, .ref a0), (2, .int s0.2)]) dX3_payForBlankets_32 rfl (by decide) rfl ?_
    refine r_iinc X (v := (s0.2 + 1)) (L1 := [(2, .int (s0.2 + 1)), (1, .int (s0.1 + r17)), (0, .ref a0)]) dX3_payForBlankets_33 rfl rfl (by decide) rfl ?_
    refine r_goto X 4 dX3_payForBlankets_36 (by decide) ?_
    cases E
    exact r_pick (by rfl : lpick [(2, .int (s0.2 + 1)), (1, .int (s0.1 + r17)), (0, .ref a0)] [2, 1, 0] = _) (hc _ rfl)
set_option maxHeartbeats 4000000 in
theorem t_x3_payForBlankets_l4_r {l : Launch} {G : GG} {M : MC} (X : CX M G cX3_payForBlankets 5 RX3 ⟨2, 0, 0, 82⟩) (hl0 : M.2.1 = l) (hr : (mM M).sig.returnType = none) (hnm : (mM M).name = yX3_payForBlankets.name) {Q : State → Prop} {kc ks : Nat} {a0 : Nat} : ∀ (n : Nat) (s0 : Int32 × Int32) (g : AH) (t : (Int32)) (g1 : AH), loopX (x3_payForBlankets_l4 a0) n s0 g = some (t, g1) → WW M G 5 Q kc ks g1 39 [(0, .ref a0), (1, .int t)] [] → WW M G 5 Q kc ks g 4 [(0, .ref a0), (1, .int s0.1), (2, .int s0.2)] [] :=
  loop_cps (K := fun t g1 => WW M G 5 Q kc ks g1 39 [(0, .ref a0), (1, .int t)] []) (fun _ s0 g => WW M G 5 Q kc ks g 4 [(0, .ref a0), (1, .int s0.1), (2, .int s0.2)] []) (fun n s0 g st g1 E hc hx => t_x3_payForBlankets_l4 X hl0 hr hnm hc hx E)
set_option maxHeartbeats 4000000 in
set_option maxRecDepth 100000 in
theorem t_x3_payForBlankets_j99_60 {l : Launch} {G : GG} {M : MC} (X : CX M G cX3_payForBlankets 5 RX3 ⟨2, 0, 0, 82⟩) (hl0 : M.2.1 = l) (hr : (mM M).sig.returnType = none) (hnm : (mM M).name = yX3_payForBlankets.name) {Q : State → Prop} {kc ks : Nat} {s9 : ((Int32) ⊕ (Unit))} {g1 : AH} {a0 : Nat} {a1 : Int32} {a2 : Int32} {a3 : Int32} {a4 : Int32} (hc : ∀ s1, s9 = .inl s1 → WW M G 5 Q kc ks g1 60 [(0, .ref a0), (1, .int a1), (2, .int a2), (3, .int a3), (4, .int s1)] []) (hx : ∀ t, s9 = .inr t → WW M G 5 Q kc ks g1 105 [(0, .ref a0), (1, .int a1), (2, .int a2), (3, .int a3)] []) {g : AH} (E : x3_payForBlankets_j99_60 a0 a1 a2 a3 a4 g = some (s9, g1)) : WW M G 5 Q kc ks g 99 [(0, .ref a0), (1, .int a1), (2, .int a2), (3, .int a3), (4, .int a4)] [] := by
  unfold x3_payForBlankets_j99_60 at E
  refine r_iinc X (v := (a4 + 1)) (L1 := [(4, .int (a4 + 1)), (0, .ref a0), (1, .int a1), (2, .int a2), (3, .int a3)]) dX3_payForBlankets_99 rfl rfl (by decide) rfl ?_
  refine r_goto X 60 dX3_payForBlankets_102 (by decide) ?_
  cases E
  exact r_pick (by rfl : lpick [(4, .int (a4 + 1)), (0, .ref a0), (1, .int a1), (2, .int a2), (3, .int a3)] [1, 2, 3, 4, 0] = _) (hc _ rfl)
set_option maxHeartbeats 4000000 in
set_option maxRecDepth 100000 in
theorem t_x3_payForBlankets_l60 {l : Launch} {G : GG} {M : MC} (X : CX M G cX3_payForBlankets 5 RX3 ⟨2, 0, 0, 82⟩) (hl0 : M.2.1 = l) (hr : (mM M).sig.returnType = none) (hnm : (mM M).name = yX3_payForBlankets.name) {Q : State → Prop} {kc ks : Nat} {s9 : ((Int32) ⊕ (Unit))} {g1 : AH} {a0 : Nat} {a1 : Int32} {a2 : Int32} {a3 : Int32} {s0 : Int32} (hc : ∀ s1, s9 = .inl s1 → WW M G 5 Q kc ks g1 60 [(0, .ref a0), (1, .int a1), (2, .int a2), (3, .int a3), (4, .int s1)] []) (hx : ∀ t, s9 = .inr t → WW M G 5 Q kc ks g1 105 [(0, .ref a0), (1, .int a1), (2, .int a2), (3, .int a3)] []) {g : AH} (E : x3_payForBlankets_l60 a0 a1 a2 a3 s0 g = some (s9, g1)) : WW M G 5 Q kc ks g 60 [(0, .ref a0), (1, .int a1), (2, .int a2), (3, .int a3), (4, .int s0)] [] := by
  unfold x3_payForBlankets_l60 at E
  refine r_iload X dX3_payForBlankets_60 rfl ?_
  refine r_aload_n X 0 dX3_payForBlankets_62 rfl rfl ?_
  obtain ⟨x1, e2, E⟩ := gb_some E
  refine r_getI X dX3_payForBlankets_63 f_X3_78 e2 ?_
  refine r_icmp_ge X 105 dX3_payForBlankets_66 (by decide) (fun c3 => ?_) (fun c3 => ?_)
  · rw [if_pos c3] at E
    cases E
    exact r_pick (by rfl : lpick [(0, .ref a0), (1, .int a1), (2, .int a2), (3, .int a3), (4, .int s0)] [0, 1, 2, 3] = _) (hx _ rfl)
  · rw [if_neg c3] at E
    refine r_aload_n X 0 dX3_payForBlankets_69 rfl rfl ?_
    obtain ⟨x4, e5, E⟩ := gb_some E
    refine r_getR X dX3_payForBlankets_70 f_X3_29 e5 ?_
    refine r_iload X dX3_payForBlankets_73 rfl ?_
    obtain ⟨x6, e7, E⟩ := gb_some E
    refine r_aald X 4 (by decide) rfl dX3_payForBlankets_75 e7 ?_
    obtain ⟨x8, e9, E⟩ := gb_some E
    refine r_getI X dX3_payForBlankets_76 f_X3_94 e9 ?_
    refine r_iconst X (v := (-1)) dX3_payForBlankets_79 (by decide) ?_
    refine r_icmp_ne X 99 dX3_payForBlankets_80 (by decide) (fun c10 => ?_) (fun c10 => ?_)
    · rw [if_neg c10] at E
      exact r_pick (by rfl : lpick [(0, .ref a0), (1, .int a1), (2, .int a2), (3, .int a3), (4, .int s0)] [0, 1, 2, 3, 4] = _) (t_x3_payForBlankets_j99_60 X hl0 hr hnm hc hx E)
    · rw [if_pos c10] at E
      refine r_aload_n X 0 dX3_payForBlankets_83 rfl rfl ?_
      obtain ⟨x11, e12, E⟩ := gb_some E
      refine r_getR X dX3_payForBlankets_84 f_X3_29 e12 ?_
      refine r_iload X dX3_payForBlankets_87 rfl ?_
      obtain ⟨x13, e14, E⟩ := gb_some E
      refine r_aald X 4 (by decide) rfl dX3_payForBlankets_89 e14 ?_
      refine r_dup X dX3_payForBlankets_90 rfl ?_
      obtain ⟨x15, e16, E⟩ := gb_some E
      refine r_getI X dX3_payForBlankets_91 f_X3_188 e16 ?_
      refine r_iload_n X 3 dX3_payForBlankets_94 rfl rfl ?_
      refine r_iadd X dX3_payForBlankets_95 ?_
      obtain ⟨g17, e18, E⟩ := gb_some E
      refine r_put X dX3_payForBlankets_96 f_X3_188 rfl rfl e18 ?_
      exact r_pick (by rfl : lpick [(0, .ref a0), (1, .int a1), (2, .int a2), (3, .int a3), (4, .int s0)] [0, 1, 2, 3, 4] = _) (t_x3_payForBlankets_j99_60 X hl0 hr hnm hc hx E)
set_option maxHeartbeats 4000000 in
theorem t_x3_payForBlankets_l60_r {l : Launch} {G : GG} {M : MC} (X : CX M G cX3_payForBlankets 5 RX3 ⟨2, 0, 0, 82⟩) (hl0 : M.2.1 = l) (hr : (mM M).sig.returnType = none) (hnm : (mM M).name = yX3_payForBlankets.name) {Q : State → Prop} {kc ks : Nat} {a0 : Nat} {a1 : Int32} {a2 : Int32} {a3 : Int32} : ∀ (n : Nat) (s0 : Int32) (g : AH) (t : (Unit)) (g1 : AH), loopX (x3_payForBlankets_l60 a0 a1 a2 a3) n s0 g = some (t, g1) → WW M G 5 Q kc ks g1 105 [(0, .ref a0), (1, .int a1), (2, .int a2), (3, .int a3)] [] → WW M G 5 Q kc ks g 60 [(0, .ref a0), (1, .int a1), (2, .int a2), (3, .int a3), (4, .int s0)] [] :=
  loop_cps (K := fun t g1 => WW M G 5 Q kc ks g1 105 [(0, .ref a0), (1, .int a1), (2, .int a2), (3, .int a3)] []) (fun _ s0 g => WW M G 5 Q kc ks g 60 [(0, .ref a0), (1, .int a1), (2, .int a2), (3, .int a3), (4, .int s0)] []) (fun n s0 g st g1 E hc hx => t_x3_payForBlankets_l60 X hl0 hr hnm hc hx E)
set_option maxHeartbeats 4000000 in
set_option maxRecDepth 100000 in
theorem t_x3_payForBlankets_j56 {l : Launch} {G : GG} {M : MC} (X : CX M G cX3_payForBlankets 5 RX3 ⟨2, 0, 0, 82⟩) (hl0 : M.2.1 = l) (hr : (mM M).sig.returnType = none) (hnm : (mM M).name = yX3_payForBlankets.name) {a0 : Nat} {a1 : Int32} {a2 : Int32} {s0 : Int32} {g : AH} {r : Unit} {g1 : AH} (E : x3_payForBlankets_j56 a0 a1 a2 s0 g = some (r, g1)) : WW M G 5 (RQ M G none g1 0 0) 0 0 g 56 [(0, .ref a0), (1, .int a1), (2, .int a2)] [.int s0] := by
  unfold x3_payForBlankets_j56 at E
  refine r_istore_n X 3 (L1 := [(3, .int s0), (0, .ref a0), (1, .int a1), (2, .int a2)]) dX3_payForBlankets_56 rfl (by decide) rfl ?_
  refine r_iconst X (v := 0) dX3_payForBlankets_57 (by decide) ?_
  refine r_istore X (L1 := [(4, .int 0), (3, .int s0), (0, .ref a0), (1, .int a1), (2, .int a2)]) dX3_payForBlankets_58 (by decide) rfl ?_
  obtain ⟨t1, g2, e3, E⟩ := cb_some E
  refine r_pick (by rfl : lpick [(4, .int 0), (3, .int s0), (0, .ref a0), (1, .int a1), (2, .int a2)] [2, 3, 4, 1, 0] = _) (t_x3_payForBlankets_l60_r X hl0 hr hnm _ _ _ _ _ e3 ?_)
  refine r_aload_n X 0 dX3_payForBlankets_105 rfl rfl ?_
  refine r_dup X dX3_payForBlankets_106 rfl ?_
  obtain ⟨x4, e5, E⟩ := gb_some E
  refine r_getI X dX3_payForBlankets_107 f_X3_60 e5 ?_
  refine r_iload_n X 1 dX3_payForBlankets_110 rfl rfl ?_
  refine r_iload_n X 3 dX3_payForBlankets_111 rfl rfl ?_
  refine r_iload_n X 2 dX3_payForBlankets_112 rfl rfl ?_
  refine r_imul X dX3_payForBlankets_113 ?_
  refine r_isub X dX3_payForBlankets_114 ?_
  refine r_iadd X dX3_payForBlankets_115 ?_
  obtain ⟨g6, e7, E⟩ := gb_some E
  refine r_put X dX3_payForBlankets_116 f_X3_60 rfl rfl e7 ?_
  cases E
  exact r_vret X hr dX3_payForBlankets_119 (by decide) (by decide)
set_option maxHeartbeats 4000000 in
set_option maxRecDepth 100000 in
theorem t_x3_payForBlankets_b {l : Launch} {G : GG} {M : MC} (X : CX M G cX3_payForBlankets 5 RX3 ⟨2, 0, 0, 82⟩) (hl0 : M.2.1 = l) (hr : (mM M).sig.returnType = none) (hnm : (mM M).name = yX3_payForBlankets.name) {p : Nat} {g : AH} {r : Unit} {g1 : AH} (E : x3_payForBlankets p g = some (r, g1)) : WW M G 5 (RQ M G none g1 0 0) 0 0 g 0 [(0, .ref p)] [] := by
  unfold x3_payForBlankets at E
  refine r_iconst X (v := 0) dX3_payForBlankets_0 (by decide) ?_
  refine r_istore_n X 1 (L1 := [(1, .int 0), (0, .ref p)]) dX3_payForBlankets_1 rfl (by decide) rfl ?_
  refine r_iconst X (v := 0) dX3_payForBlankets_2 (by decide) ?_
  refine r_istore_n X 2 (L1 := [(2, .int 0), (1, .int 0), (0, .ref p)]) dX3_payForBlankets_3 rfl (by decide) rfl ?_
  obtain ⟨t1, g2, e3, E⟩ := cb_some E
  refine r_pick (by rfl : lpick [(2, .int 0), (1, .int 0), (0, .ref p)] [2, 1, 0] = _) (t_x3_payForBlankets_l4_r X hl0 hr hnm _ _ _ _ _ e3 ?_)
  refine r_aload_n X 0 dX3_payForBlankets_39 rfl rfl ?_
  obtain ⟨u7, e8, E⟩ := gb_some E
  obtain ⟨r4, g5, e6, E⟩ := cb_some E
  refine r_callV0 X hl0 (ci := 3) dX3_payForBlankets_40 y_X3_hikersWithoutBlanket m_X3_140 rfl rfl e8 (t_x3_hikersWithoutBlanket (l := l) (G := G) e6) rfl rfl (Nat.le_of_ble_eq_true rfl) (by decide) ?_
  refine r_istore_n X 2 (L1 := [(2, .int r4), (0, .ref p), (1, .int t1)]) dX3_payForBlankets_43 rfl (by decide) rfl ?_
  refine r_iload_n X 2 dX3_payForBlankets_44 rfl rfl ?_
  refine r_iconst X (v := 1) dX3_payForBlankets_45 (by decide) ?_
  refine r_icmp_ge X 53 dX3_payForBlankets_46 (by decide) (fun c9 => ?_) (fun c9 => ?_)
  · rw [if_pos c9] at E
    refine r_iload_n X 1 dX3_payForBlankets_53 rfl rfl ?_
    refine r_iload_n X 2 dX3_payForBlankets_54 rfl rfl ?_
    by_cases c10 : r4 = 0
    · rw [if_pos c10] at E; cases E
    rw [if_neg c10] at E
    refine r_idiv X dX3_payForBlankets_55 c10 ?_
    exact r_pick (by rfl : lpick [(2, .int r4), (0, .ref p), (1, .int t1)] [1, 2, 0] = _) (t_x3_payForBlankets_j56 X hl0 hr hnm E)
  · rw [if_neg c9] at E
    refine r_iconst X (v := 0) dX3_payForBlankets_49 (by decide) ?_
    refine r_goto X 56 dX3_payForBlankets_50 (by decide) ?_
    exact r_pick (by rfl : lpick [(2, .int r4), (0, .ref p), (1, .int t1)] [1, 2, 0] = _) (t_x3_payForBlankets_j56 X hl0 hr hnm E)
theorem t_x3_payForBlankets {l : Launch} {G : GG} {p : Nat} {g : AH} {r : Unit} {g1 : AH} (E : x3_payForBlankets p g = some (r, g1)) : Ct l G yX3_payForBlankets cX3_payForBlankets 5 none ⟨2, 0, 0, 82⟩ [.ref p] g none g1 :=
  ct_of (L0 := [(0, .ref p)]) y_X3_payForBlankets rfl (Nat.le_of_ble_eq_true rfl) fun M hl0 X hr hnm => t_x3_payForBlankets_b X hl0 hr hnm E
set_option maxHeartbeats 4000000 in
set_option maxRecDepth 100000 in
theorem t_x3_endHour_b {l : Launch} {G : GG} {M : MC} (X : CX M G cX3_endHour 1 RX3 ⟨3, 0, 0, 106⟩) (hl0 : M.2.1 = l) (hr : (mM M).sig.returnType = none) (hnm : (mM M).name = yX3_endHour.name) {p : Nat} {g : AH} {r : Unit} {g1 : AH} (E : x3_endHour p g = some (r, g1)) : WW M G 1 (RQ M G none g1 0 0) 0 0 g 0 [(0, .ref p)] [] := by
  unfold x3_endHour at E
  refine r_aload_n X 0 dX3_endHour_0 rfl rfl ?_
  refine r_dup X dX3_endHour_1 rfl ?_
  obtain ⟨x1, e2, E⟩ := gb_some E
  refine r_getI X dX3_endHour_2 f_X3_51 e2 ?_
  refine r_iconst X (v := 1) dX3_endHour_5 (by decide) ?_
  refine r_iadd X dX3_endHour_6 ?_
  obtain ⟨g3, e4, E⟩ := gb_some E
  refine r_put X dX3_endHour_7 f_X3_51 rfl rfl e4 ?_
  refine r_aload_n X 0 dX3_endHour_10 rfl rfl ?_
  obtain ⟨x5, e6, E⟩ := gb_some E
  refine r_getI X dX3_endHour_11 f_X3_51 e6 ?_
  refine r_bipush X (v := 8) dX3_endHour_14 (by decide) ?_
  refine r_irem X dX3_endHour_16 (by decide) ?_
  refine r_if_ne X 32 dX3_endHour_17 (by decide) (fun c8 => ?_) (fun c8 => ?_)
  · rw [if_neg c8] at E
    cases E
    exact r_vret X hr dX3_endHour_32 (by decide) (by decide)
  · rw [if_pos c8] at E
    refine r_aload_n X 0 dX3_endHour_20 rfl rfl ?_
    obtain ⟨u12, e13, E⟩ := gb_some E
    obtain ⟨r9, g10, e11, E⟩ := cb_some E
    refine r_callV0 X hl0 (ci := 3) dX3_endHour_21 y_X3_payForNight m_X3_206 rfl rfl e13 (t_x3_payForNight (l := l) (G := G) e11) rfl rfl (Nat.le_of_ble_eq_true rfl) (by decide) ?_
    refine r_aload_n X 0 dX3_endHour_24 rfl rfl ?_
    obtain ⟨u17, e18, E⟩ := gb_some E
    obtain ⟨r14, g15, e16, E⟩ := cb_some E
    refine r_callV0 X hl0 (ci := 3) dX3_endHour_25 y_X3_payForLogs m_X3_209 rfl rfl e18 (t_x3_payForLogs (l := l) (G := G) e16) rfl rfl (Nat.le_of_ble_eq_true rfl) (by decide) ?_
    refine r_aload_n X 0 dX3_endHour_28 rfl rfl ?_
    obtain ⟨u22, e23, E⟩ := gb_some E
    obtain ⟨r19, g20, e21, E⟩ := cb_some E
    refine r_callV0 X hl0 (ci := 3) dX3_endHour_29 y_X3_payForBlankets m_X3_212 rfl rfl e23 (t_x3_payForBlankets (l := l) (G := G) e21) rfl rfl (Nat.le_of_ble_eq_true rfl) (by decide) ?_
    cases E
    exact r_vret X hr dX3_endHour_32 (by decide) (by decide)
theorem t_x3_endHour {l : Launch} {G : GG} {p : Nat} {g : AH} {r : Unit} {g1 : AH} (E : x3_endHour p g = some (r, g1)) : Ct l G yX3_endHour cX3_endHour 1 none ⟨3, 0, 0, 106⟩ [.ref p] g none g1 :=
  ct_of (L0 := [(0, .ref p)]) y_X3_endHour rfl (Nat.le_of_ble_eq_true rfl) fun M hl0 X hr hnm => t_x3_endHour_b X hl0 hr hnm E
set_option maxHeartbeats 4000000 in
set_option maxRecDepth 100000 in
theorem t_x3_passTime_l7 {l : Launch} {G : GG} {M : MC} (X : CX M G cX3_passTime 4 RX3 ⟨4, 0, 0, 128⟩) (hl0 : M.2.1 = l) (hr : (mM M).sig.returnType = (some .int)) (hnm : (mM M).name = yX3_passTime.name) {Q : State → Prop} {kc ks : Nat} {s9 : ((Int32) ⊕ (Unit))} {g1 : AH} {a0 : Nat} {a1 : Int32} {a2 : Int32} {s0 : Int32} (hc : ∀ s1, s9 = .inl s1 → WW M G 4 Q kc ks g1 7 [(0, .ref a0), (1, .int a1), (2, .int a2), (3, .int s1)] []) (hx : ∀ t, s9 = .inr t → WW M G 4 Q kc ks g1 34 [(0, .ref a0), (2, .int a2)] []) {g : AH} (E : x3_passTime_l7 a0 a1 a2 s0 g = some (s9, g1)) : WW M G 4 Q kc ks g 7 [(0, .ref a0), (1, .int a1), (2, .int a2), (3, .int s0)] [] := by
  unfold x3_passTime_l7 at E
  refine r_iload_n X 3 dX3_passTime_7 rfl rfl ?_
  refine r_iload_n X 1 dX3_passTime_8 rfl rfl ?_
  refine r_icmp_ge X 34 dX3_passTime_9 (by decide) (fun c1 => ?_) (fun c1 => ?_)
  · rw [if_pos c1] at E
    cases E
    exact r_pick (by rfl : lpick [(0, .ref a0), (1, .int a1), (2, .int a2), (3, .int s0)] [0, 2] = _) (hx _ rfl)
  · rw [if_neg c1] at E
    refine r_aload_n X 0 dX3_passTime_12 rfl rfl ?_
    obtain ⟨u5, e6, E⟩ := gb_some E
    obtain ⟨r2, g3, e4, E⟩ := cb_some E
    refine r_callV0 X hl0 (ci := 3) dX3_passTime_13 y_X3_burnLogs m_X3_197 rfl rfl e6 (t_x3_burnLogs (l := l) (G := G) e4) rfl rfl (Nat.le_of_ble_eq_true rfl) (by decide) ?_
    refine r_aload_n X 0 dX3_passTime_16 rfl rfl ?_
    obtain ⟨u10, e11, E⟩ := gb_some E
    obtain ⟨r7, g8, e9, E⟩ := cb_some E
    refine r_callV0 X hl0 (ci := 3) dX3_passTime_17 y_X3_measure m_X3_48 rfl rfl e11 (t_x3_measure (l := l) (G := G) e9) rfl rfl (Nat.le_of_ble_eq_true rfl) (by decide) ?_
    refine r_aload_n X 0 dX3_passTime_20 rfl rfl ?_
    obtain ⟨u15, e16, E⟩ := gb_some E
    obtain ⟨r12, g13, e14, E⟩ := cb_some E
    refine r_callV0 X hl0 (ci := 3) dX3_passTime_21 y_X3_noteWhatHappens m_X3_200 rfl rfl e16 (t_x3_noteWhatHappens (l := l) (G := G) e14) rfl rfl (Nat.le_of_ble_eq_true rfl) (by decide) ?_
    refine r_aload_n X 0 dX3_passTime_24 rfl rfl ?_
    obtain ⟨u20, e21, E⟩ := gb_some E
    obtain ⟨r17, g18, e19, E⟩ := cb_some E
    refine r_callV0 X hl0 (ci := 3) dX3_passTime_25 y_X3_endHour m_X3_203 rfl rfl e21 (t_x3_endHour (l := l) (G := G) e19) rfl rfl (Nat.le_of_ble_eq_true rfl) (by decide) ?_
    refine r_iinc X (v := (s0 + 1)) (L1 := [(3, .int (s0 + 1)), (0, .ref a0), (1, .int a1), (2, .int a2)]) dX3_passTime_28 rfl rfl (by decide) rfl ?_
    refine r_goto X 7 dX3_passTime_31 (by decide) ?_
    cases E
    exact r_pick (by rfl : lpick [(3, .int (s0 + 1)), (0, .ref a0), (1, .int a1), (2, .int a2)] [1, 2, 3, 0] = _) (hc _ rfl)
set_option maxHeartbeats 4000000 in
theorem t_x3_passTime_l7_r {l : Launch} {G : GG} {M : MC} (X : CX M G cX3_passTime 4 RX3 ⟨4, 0, 0, 128⟩) (hl0 : M.2.1 = l) (hr : (mM M).sig.returnType = (some .int)) (hnm : (mM M).name = yX3_passTime.name) {Q : State → Prop} {kc ks : Nat} {a0 : Nat} {a1 : Int32} {a2 : Int32} : ∀ (n : Nat) (s0 : Int32) (g : AH) (t : (Unit)) (g1 : AH), loopX (x3_passTime_l7 a0 a1 a2) n s0 g = some (t, g1) → WW M G 4 Q kc ks g1 34 [(0, .ref a0), (2, .int a2)] [] → WW M G 4 Q kc ks g 7 [(0, .ref a0), (1, .int a1), (2, .int a2), (3, .int s0)] [] :=
  loop_cps (K := fun t g1 => WW M G 4 Q kc ks g1 34 [(0, .ref a0), (2, .int a2)] []) (fun _ s0 g => WW M G 4 Q kc ks g 7 [(0, .ref a0), (1, .int a1), (2, .int a2), (3, .int s0)] []) (fun n s0 g st g1 E hc hx => t_x3_passTime_l7 X hl0 hr hnm hc hx E)
set_option maxHeartbeats 4000000 in
set_option maxRecDepth 100000 in
theorem t_x3_passTime_b {l : Launch} {G : GG} {M : MC} (X : CX M G cX3_passTime 4 RX3 ⟨4, 0, 0, 128⟩) (hl0 : M.2.1 = l) (hr : (mM M).sig.returnType = (some .int)) (hnm : (mM M).name = yX3_passTime.name) {p : Nat} {b0 : Int32} {g : AH} {r : Int32} {g1 : AH} (E : x3_passTime p b0 g = some (r, g1)) : WW M G 4 (RQ M G (some (.int r)) g1 0 0) 0 0 g 0 [(0, .ref p), (1, .int b0)] [] := by
  unfold x3_passTime at E
  refine r_aload_n X 0 dX3_passTime_0 rfl rfl ?_
  obtain ⟨x1, e2, E⟩ := gb_some E
  refine r_getI X dX3_passTime_1 f_X3_60 e2 ?_
  refine r_istore_n X 2 (L1 := [(2, .int x1), (0, .ref p), (1, .int b0)]) dX3_passTime_4 rfl (by decide) rfl ?_
  refine r_iconst X (v := 0) dX3_passTime_5 (by decide) ?_
  refine r_istore_n X 3 (L1 := [(3, .int 0), (2, .int x1), (0, .ref p), (1, .int b0)]) dX3_passTime_6 rfl (by decide) rfl ?_
  obtain ⟨t3, g4, e5, E⟩ := cb_some E
  refine r_pick (by rfl : lpick [(3, .int 0), (2, .int x1), (0, .ref p), (1, .int b0)] [2, 3, 1, 0] = _) (t_x3_passTime_l7_r X hl0 hr hnm _ _ _ _ _ e5 ?_)
  refine r_aload_n X 0 dX3_passTime_34 rfl rfl ?_
  obtain ⟨u9, e10, E⟩ := gb_some E
  obtain ⟨r6, g7, e8, E⟩ := cb_some E
  refine r_callV0 X hl0 (ci := 3) dX3_passTime_35 y_X3_measure m_X3_48 rfl rfl e10 (t_x3_measure (l := l) (G := G) e8) rfl rfl (Nat.le_of_ble_eq_true rfl) (by decide) ?_
  refine r_aload_n X 0 dX3_passTime_38 rfl rfl ?_
  obtain ⟨x11, e12, E⟩ := gb_some E
  refine r_getI X dX3_passTime_39 f_X3_60 e12 ?_
  refine r_iload_n X 2 dX3_passTime_42 rfl rfl ?_
  refine r_isub X dX3_passTime_43 ?_
  cases E
  exact r_iret X hr dX3_passTime_44 (by decide) (by decide)
theorem t_x3_passTime {l : Launch} {G : GG} {p : Nat} {b0 : Int32} {g : AH} {r : Int32} {g1 : AH} (E : x3_passTime p b0 g = some (r, g1)) : Ct l G yX3_passTime cX3_passTime 4 (some .int) ⟨4, 0, 0, 128⟩ [.ref p, .int b0] g (some (.int r)) g1 :=
  ct_of (L0 := [(0, .ref p), (1, .int b0)]) y_X3_passTime rfl (Nat.le_of_ble_eq_true rfl) fun M hl0 X hr hnm => t_x3_passTime_b X hl0 hr hnm E
set_option maxHeartbeats 4000000 in
set_option maxRecDepth 100000 in
theorem t_x3_perform_b {l : Launch} {G : GG} {M : MC} (X : CX M G cX3_perform 4 RX3 ⟨5, 0, 0, 151⟩) (hl0 : M.2.1 = l) (hr : (mM M).sig.returnType = (some .int)) (hnm : (mM M).name = yX3_perform.name) {p : Nat} {b0 : Int32} {b1 : Int32} {b2 : Int32} {g : AH} {r : Int32} {g1 : AH} (E : x3_perform p b0 b1 b2 g = some (r, g1)) : WW M G 4 (RQ M G (some (.int r)) g1 0 0) 0 0 g 0 [(0, .ref p), (1, .int b0), (2, .int b1), (3, .int b2)] [] := by
  unfold x3_perform at E
  refine r_iload_n X 1 dX3_perform_0 rfl rfl ?_
  by_cases c1 : b0 = 0
  · rw [if_pos c1] at E
    refine r_tswI X 0 48 dX3_perform_1 c1 (by decide) (by decide) rfl (by decide) ?_
    refine r_aload_n X 0 dX3_perform_48 rfl rfl ?_
    refine r_iload_n X 2 dX3_perform_49 rfl rfl ?_
    refine r_iload_n X 3 dX3_perform_50 rfl rfl ?_
    obtain ⟨u5, e6, E⟩ := gb_some E
    obtain ⟨r2, g3, e4, E⟩ := cb_some E
    refine r_callV0 X hl0 (ci := 3) dX3_perform_51 y_X3_giveBlanket m_X3_251 rfl rfl e6 (t_x3_giveBlanket (l := l) (G := G) e4) rfl rfl (Nat.le_of_ble_eq_true rfl) (by decide) ?_
    refine r_pop X dX3_perform_54 rfl ?_
    refine r_aload_n X 0 dX3_perform_55 rfl rfl ?_
    obtain ⟨x7, e8, E⟩ := gb_some E
    refine r_getR X dX3_perform_56 f_X3_29 e8 ?_
    refine r_iload_n X 2 dX3_perform_59 rfl rfl ?_
    obtain ⟨x9, e10, E⟩ := gb_some E
    refine r_aald X 4 (by decide) rfl dX3_perform_60 e10 ?_
    obtain ⟨x11, e12, E⟩ := gb_some E
    refine r_getI X dX3_perform_61 f_X3_111 e12 ?_
    cases E
    exact r_iret X hr dX3_perform_64 (by decide) (by decide)
  rw [if_neg c1] at E
  by_cases c13 : b0 = 1
  · rw [if_pos c13] at E
    refine r_tswI X 1 65 dX3_perform_1 c13 (by decide) (by decide) rfl (by decide) ?_
    refine r_aload_n X 0 dX3_perform_65 rfl rfl ?_
    refine r_iload_n X 2 dX3_perform_66 rfl rfl ?_
    refine r_iconst X (v := (-1)) dX3_perform_67 (by decide) ?_
    obtain ⟨u17, e18, E⟩ := gb_some E
    obtain ⟨r14, g15, e16, E⟩ := cb_some E
    refine r_callV0 X hl0 (ci := 3) dX3_perform_68 y_X3_giveBlanket m_X3_251 rfl rfl e18 (t_x3_giveBlanket (l := l) (G := G) e16) rfl rfl (Nat.le_of_ble_eq_true rfl) (by decide) ?_
    cases E
    exact r_iret X hr dX3_perform_71 (by decide) (by decide)
  rw [if_neg c13] at E
  by_cases c19 : b0 = 2
  · rw [if_pos c19] at E
    refine r_tswI X 2 72 dX3_perform_1 c19 (by decide) (by decide) rfl (by decide) ?_
    refine r_aload_n X 0 dX3_perform_72 rfl rfl ?_
    refine r_iload_n X 2 dX3_perform_73 rfl rfl ?_
    refine r_iload_n X 3 dX3_perform_74 rfl rfl ?_
    obtain ⟨u23, e24, E⟩ := gb_some E
    obtain ⟨r20, g21, e22, E⟩ := cb_some E
    refine r_callV0 X hl0 (ci := 3) dX3_perform_75 y_X3_exchangeBlankets m_X3_254 rfl rfl e24 (t_x3_exchangeBlankets (l := l) (G := G) e22) rfl rfl (Nat.le_of_ble_eq_true rfl) (by decide) ?_
    refine r_aload_n X 0 dX3_perform_78 rfl rfl ?_
    obtain ⟨u28, e29, E⟩ := gb_some E
    obtain ⟨r25, g26, e27, E⟩ := cb_some E
    refine r_callV0 X hl0 (ci := 3) dX3_perform_79 y_X3_coldCount m_X3_258 rfl rfl e29 (t_x3_coldCount (l := l) (G := G) e27) rfl rfl (Nat.le_of_ble_eq_true rfl) (by decide) ?_
    cases E
    exact r_iret X hr dX3_perform_82 (by decide) (by decide)
  rw [if_neg c19] at E
  by_cases c30 : b0 = 3
  · rw [if_pos c30] at E
    refine r_tswI X 3 83 dX3_perform_1 c30 (by decide) (by decide) rfl (by decide) ?_
    refine r_aload_n X 0 dX3_perform_83 rfl rfl ?_
    refine r_iload_n X 2 dX3_perform_84 rfl rfl ?_
    refine r_iload_n X 3 dX3_perform_85 rfl rfl ?_
    obtain ⟨u34, e35, E⟩ := gb_some E
    obtain ⟨r31, g32, e33, E⟩ := cb_some E
    refine r_callV0 X hl0 (ci := 3) dX3_perform_86 y_X3_moveTo m_X3_261 rfl rfl e35 (t_x3_moveTo (l := l) (G := G) e33) rfl rfl (Nat.le_of_ble_eq_true rfl) (by decide) ?_
    refine r_pop X dX3_perform_89 rfl ?_
    refine r_aload_n X 0 dX3_perform_90 rfl rfl ?_
    refine r_iload_n X 3 dX3_perform_91 rfl rfl ?_
    obtain ⟨u39, e40, E⟩ := gb_some E
    obtain ⟨r36, g37, e38, E⟩ := cb_some E
    refine r_callV0 X hl0 (ci := 3) dX3_perform_92 y_X3_noiseAt m_X3_124 rfl rfl e40 (t_x3_noiseAt (l := l) (G := G) e38) rfl rfl (Nat.le_of_ble_eq_true rfl) (by decide) ?_
    cases E
    exact r_iret X hr dX3_perform_95 (by decide) (by decide)
  rw [if_neg c30] at E
  by_cases c41 : b0 = 4
  · rw [if_pos c41] at E
    refine r_tswI X 4 96 dX3_perform_1 c41 (by decide) (by decide) rfl (by decide) ?_
    refine r_aload_n X 0 dX3_perform_96 rfl rfl ?_
    refine r_iload_n X 2 dX3_perform_97 rfl rfl ?_
    refine r_iconst X (v := (-1)) dX3_perform_98 (by decide) ?_
    obtain ⟨u45, e46, E⟩ := gb_some E
    obtain ⟨r42, g43, e44, E⟩ := cb_some E
    refine r_callV0 X hl0 (ci := 3) dX3_perform_99 y_X3_moveTo m_X3_261 rfl rfl e46 (t_x3_moveTo (l := l) (G := G) e44) rfl rfl (Nat.le_of_ble_eq_true rfl) (by decide) ?_
    cases E
    exact r_iret X hr dX3_perform_102 (by decide) (by decide)
  rw [if_neg c41] at E
  by_cases c47 : b0 = 5
  · rw [if_pos c47] at E
    refine r_tswI X 5 103 dX3_perform_1 c47 (by decide) (by decide) rfl (by decide) ?_
    refine r_aload_n X 0 dX3_perform_103 rfl rfl ?_
    refine r_iload_n X 2 dX3_perform_104 rfl rfl ?_
    obtain ⟨u51, e52, E⟩ := gb_some E
    obtain ⟨r48, g49, e50, E⟩ := cb_some E
    refine r_callV0 X hl0 (ci := 3) dX3_perform_105 y_X3_changeRate m_X3_264 rfl rfl e52 (t_x3_changeRate (l := l) (G := G) e50) rfl rfl (Nat.le_of_ble_eq_true rfl) (by decide) ?_
    cases E
    exact r_iret X hr dX3_perform_108 (by decide) (by decide)
  rw [if_neg c47] at E
  by_cases c53 : b0 = 6
  · rw [if_pos c53] at E
    refine r_tswI X 6 109 dX3_perform_1 c53 (by decide) (by decide) rfl (by decide) ?_
    refine r_aload_n X 0 dX3_perform_109 rfl rfl ?_
    refine r_iload_n X 2 dX3_perform_110 rfl rfl ?_
    obtain ⟨u57, e58, E⟩ := gb_some E
    obtain ⟨r54, g55, e56, E⟩ := cb_some E
    refine r_callV0 X hl0 (ci := 3) dX3_perform_111 y_X3_addLogs m_X3_267 rfl rfl e58 (t_x3_addLogs (l := l) (G := G) e56) rfl rfl (Nat.le_of_ble_eq_true rfl) (by decide) ?_
    cases E
    exact r_iret X hr dX3_perform_114 (by decide) (by decide)
  rw [if_neg c53] at E
  by_cases c59 : b0 = 7
  · rw [if_pos c59] at E
    refine r_tswI X 7 115 dX3_perform_1 c59 (by decide) (by decide) rfl (by decide) ?_
    refine r_aload_n X 0 dX3_perform_115 rfl rfl ?_
    refine r_iload_n X 2 dX3_perform_116 rfl rfl ?_
    refine r_iload_n X 3 dX3_perform_117 rfl rfl ?_
    obtain ⟨u63, e64, E⟩ := gb_some E
    obtain ⟨r60, g61, e62, E⟩ := cb_some E
    refine r_callV0 X hl0 (ci := 3) dX3_perform_118 y_X3_payBack m_X3_270 rfl rfl e64 (t_x3_payBack (l := l) (G := G) e62) rfl rfl (Nat.le_of_ble_eq_true rfl) (by decide) ?_
    cases E
    exact r_iret X hr dX3_perform_121 (by decide) (by decide)
  rw [if_neg c59] at E
  refine r_tswD X 122 dX3_perform_1 (tsw_out (fun k h1 h2 => by
    rcases (by omega : k = 0 ∨ k = 1 ∨ k = 2 ∨ k = 3 ∨ k = 4 ∨ k = 5 ∨ k = 6 ∨ k = 7) with rfl | rfl | rfl | rfl | rfl | rfl | rfl | rfl
    · exact c1
    · exact c13
    · exact c19
    · exact c30
    · exact c41
    · exact c47
    · exact c53
    · exact c59
    )) (by decide) ?_
  refine r_aload_n X 0 dX3_perform_122 rfl rfl ?_
  refine r_iload_n X 2 dX3_perform_123 rfl rfl ?_
  obtain ⟨u68, e69, E⟩ := gb_some E
  obtain ⟨r65, g66, e67, E⟩ := cb_some E
  refine r_callV0 X hl0 (ci := 3) dX3_perform_124 y_X3_passTime m_X3_273 rfl rfl e69 (t_x3_passTime (l := l) (G := G) e67) rfl rfl (Nat.le_of_ble_eq_true rfl) (by decide) ?_
  cases E
  exact r_iret X hr dX3_perform_127 (by decide) (by decide)
theorem t_x3_perform {l : Launch} {G : GG} {p : Nat} {b0 : Int32} {b1 : Int32} {b2 : Int32} {g : AH} {r : Int32} {g1 : AH} (E : x3_perform p b0 b1 b2 g = some (r, g1)) : Ct l G yX3_perform cX3_perform 4 (some .int) ⟨5, 0, 0, 151⟩ [.ref p, .int b0, .int b1, .int b2] g (some (.int r)) g1 :=
  ct_of (L0 := [(0, .ref p), (1, .int b0), (2, .int b1), (3, .int b2)]) y_X3_perform rfl (Nat.le_of_ble_eq_true rfl) fun M hl0 X hr hnm => t_x3_perform_b X hl0 hr hnm E
set_option maxHeartbeats 4000000 in
set_option maxRecDepth 100000 in
theorem t_x8_runScript_l31 {l : Launch} {G : GG} {M : MC} (X : CX M G cX8_runScript 6 RX8 ⟨9, 0, 0, 287⟩) (hl0 : M.2.1 = l) (hr : (mM M).sig.returnType = (some .int)) (hnm : (mM M).name = yX8_runScript.name) {Q : State → Prop} {kc ks : Nat} {s9 : ((Int32) ⊕ ((Unit) ⊕ Int32))} {g1 : AH} {a0 : Nat} {s0 : Int32} (hc : ∀ s1, s9 = .inl s1 → WW M G 6 Q kc ks g1 31 [(0, .ref a0), (2, .int s1)] []) (hx : ∀ t, s9 = .inr t → Sum.elim (fun t1 => WW M G 6 Q kc ks g1 121 [(0, .ref a0)] []) (fun t2 => ∃ mc ms : Nat, kc ≤ mc ∧ ks ≤ ms ∧ Q = RQ M G (some (.int t2)) g1 mc ms) t) {g : AH} (E : x8_runScript_l31 a0 s0 g = some (s9, g1)) : WW M G 6 Q kc ks g 31 [(0, .ref a0), (2, .int s0)] [] := by
  unfold x8_runScript_l31 at E
  refine r_iload_n X 2 dX8_runScript_31 rfl rfl ?_
  refine r_aload_n X 0 dX8_runScript_32 rfl rfl ?_
  obtain ⟨x1, e2, E⟩ := gb_some E
  refine r_getR X dX8_runScript_33 f_X8_55 e2 ?_
  obtain ⟨x3, e4, E⟩ := gb_some E
  refine r_getI X dX8_runScript_36 f_X8_123 e4 ?_
  refine r_icmp_ge X 121 dX8_runScript_39 (by decide) (fun c5 => ?_) (fun c5 => ?_)
  · rw [if_pos c5] at E
    cases E
    exact r_pick (by rfl : lpick [(0, .ref a0), (2, .int s0)] [0] = _) (hx _ rfl)
  · rw [if_neg c5] at E
    refine r_aload_n X 0 dX8_runScript_42 rfl rfl ?_
    obtain ⟨x6, e7, E⟩ := gb_some E
    refine r_getR X dX8_runScript_43 f_X8_55 e7 ?_
    obtain ⟨x8, e9, E⟩ := gb_some E
    refine r_getR X dX8_runScript_46 f_X8_126 e9 ?_
    refine r_iload_n X 2 dX8_runScript_49 rfl rfl ?_
    obtain ⟨x10, e11, E⟩ := gb_some E
    refine r_iald X dX8_runScript_50 e11 ?_
    refine r_istore_n X 3 (L1 := [(3, .int x10), (0, .ref a0), (2, .int s0)]) dX8_runScript_51 rfl (by decide) rfl ?_
    refine r_aload_n X 0 dX8_runScript_52 rfl rfl ?_
    obtain ⟨x12, e13, E⟩ := gb_some E
    refine r_getR X dX8_runScript_53 f_X8_55 e13 ?_
    obtain ⟨x14, e15, E⟩ := gb_some E
    refine r_getR X dX8_runScript_56 f_X8_130 e15 ?_
    refine r_iload_n X 2 dX8_runScript_59 rfl rfl ?_
    obtain ⟨x16, e17, E⟩ := gb_some E
    refine r_iald X dX8_runScript_60 e17 ?_
    refine r_istore X (L1 := [(4, .int x16), (3, .int x10), (0, .ref a0), (2, .int s0)]) dX8_runScript_61 (by decide) rfl ?_
    refine r_aload_n X 0 dX8_runScript_63 rfl rfl ?_
    obtain ⟨x18, e19, E⟩ := gb_some E
    refine r_getR X dX8_runScript_64 f_X8_55 e19 ?_
    obtain ⟨x20, e21, E⟩ := gb_some E
    refine r_getR X dX8_runScript_67 f_X8_133 e21 ?_
    refine r_iload_n X 2 dX8_runScript_70 rfl rfl ?_
    obtain ⟨x22, e23, E⟩ := gb_some E
    refine r_iald X dX8_runScript_71 e23 ?_
    refine r_istore X (L1 := [(5, .int x22), (4, .int x16), (3, .int x10), (0, .ref a0), (2, .int s0)]) dX8_runScript_72 (by decide) rfl ?_
    refine r_aload_n X 0 dX8_runScript_74 rfl rfl ?_
    obtain ⟨x24, e25, E⟩ := gb_some E
    refine r_getR X dX8_runScript_75 f_X8_10 e25 ?_
    refine r_iload_n X 3 dX8_runScript_78 rfl rfl ?_
    refine r_iload X dX8_runScript_79 rfl ?_
    refine r_iload X dX8_runScript_81 rfl ?_
    obtain ⟨u29, e30, E⟩ := gb_some E
    obtain ⟨r26, g27, e28, E⟩ := cb_some E
    refine r_callV0 X hl0 (ci := 3) dX8_runScript_83 y_X3_faultOf m_X8_136 rfl rfl e30 (t_x3_faultOf (l := l) (G := G) e28) rfl rfl (Nat.le_of_ble_eq_true rfl) (by decide) ?_
    refine r_if_eq X 91 dX8_runScript_86 (by decide) (fun c31 => ?_) (fun c31 => ?_)
    · rw [if_pos c31] at E
      refine r_aload_n X 0 dX8_runScript_91 rfl rfl ?_
      obtain ⟨x32, e33, E⟩ := gb_some E
      refine r_getR X dX8_runScript_92 f_X8_29 e33 ?_
      refine r_aload_n X 0 dX8_runScript_95 rfl rfl ?_
      obtain ⟨x34, e35, E⟩ := gb_some E
      refine r_getR X dX8_runScript_96 f_X8_10 e35 ?_
      obtain ⟨u39, e40, E⟩ := gb_some E
      obtain ⟨r36, g37, e38, E⟩ := cb_some E
      refine r_callV0 X hl0 (ci := 2) dX8_runScript_99 y_X2_keep m_X8_140 rfl rfl e40 (t_x2_keep (l := l) (G := G) e38) rfl rfl (Nat.le_of_ble_eq_true rfl) (by decide) ?_
      refine r_aload_n X 0 dX8_runScript_102 rfl rfl ?_
      obtain ⟨x41, e42, E⟩ := gb_some E
      refine r_getR X dX8_runScript_103 f_X8_10 e42 ?_
      refine r_iload_n X 3 dX8_runScript_106 rfl rfl ?_
      refine r_iload X dX8_runScript_107 rfl ?_
      refine r_iload X dX8_runScript_109 rfl ?_
      obtain ⟨u46, e47, E⟩ := gb_some E
      obtain ⟨r43, g44, e45, E⟩ := cb_some E
      refine r_callV0 X hl0 (ci := 3) dX8_runScript_111 y_X3_perform m_X8_143 rfl rfl e47 (t_x3_perform (l := l) (G := G) e45) rfl rfl (Nat.le_of_ble_eq_true rfl) (by decide) ?_
      refine r_pop X dX8_runScript_114 rfl ?_
      refine r_iinc X (v := (s0 + 1)) (L1 := [(2, .int (s0 + 1)), (5, .int x22), (4, .int x16), (3, .int x10), (0, .ref a0)]) dX8_runScript_115 rfl rfl (by decide) rfl ?_
      refine r_goto X 31 dX8_runScript_118 (by decide) ?_
      cases E
      exact r_pick (by rfl : lpick [(2, .int (s0 + 1)), (5, .int x22), (4, .int x16), (3, .int x10), (0, .ref a0)] [4, 0] = _) (hc _ rfl)
    · rw [if_neg c31] at E
      refine r_iload_n X 2 dX8_runScript_89 rfl rfl ?_
      cases E
      obtain ⟨mc9, ms9, h91, h92, rfl⟩ := hx _ rfl
      exact r_iret X hr dX8_runScript_90 h91 h92
set_option maxHeartbeats 4000000 in
theorem t_x8_runScript_l31_r {l : Launch} {G : GG} {M : MC} (X : CX M G cX8_runScript 6 RX8 ⟨9, 0, 0, 287⟩) (hl0 : M.2.1 = l) (hr : (mM M).sig.returnType = (some .int)) (hnm : (mM M).name = yX8_runScript.name) {Q : State → Prop} {kc ks : Nat} {a0 : Nat} : ∀ (n : Nat) (s0 : Int32) (g : AH) (t : ((Unit) ⊕ Int32)) (g1 : AH), loopX (x8_runScript_l31 a0) n s0 g = some (t, g1) → Sum.elim (fun t1 => WW M G 6 Q kc ks g1 121 [(0, .ref a0)] []) (fun t2 => ∃ mc ms : Nat, kc ≤ mc ∧ ks ≤ ms ∧ Q = RQ M G (some (.int t2)) g1 mc ms) t → WW M G 6 Q kc ks g 31 [(0, .ref a0), (2, .int s0)] [] :=
  loop_cps (K := fun t g1 => Sum.elim (fun t1 => WW M G 6 Q kc ks g1 121 [(0, .ref a0)] []) (fun t2 => ∃ mc ms : Nat, kc ≤ mc ∧ ks ≤ ms ∧ Q = RQ M G (some (.int t2)) g1 mc ms) t) (fun _ s0 g => WW M G 6 Q kc ks g 31 [(0, .ref a0), (2, .int s0)] []) (fun n s0 g st g1 E hc hx => t_x8_runScript_l31 X hl0 hr hnm hc hx E)
set_option maxHeartbeats 4000000 in
set_option maxRecDepth 100000 in
theorem t_x8_runScript_b {l : Launch} {G : GG} {M : MC} (X : CX M G cX8_runScript 6 RX8 ⟨9, 0, 0, 287⟩) (hl0 : M.2.1 = l) (hr : (mM M).sig.returnType = (some .int)) (hnm : (mM M).name = yX8_runScript.name) {p : Nat} {g : AH} {r : Int32} {g1 : AH} (E : x8_runScript p g = some (r, g1)) : WW M G 6 (RQ M G (some (.int r)) g1 0 0) 0 0 g 0 [(0, .ref p)] [] := by
  unfold x8_runScript at E
  refine r_aload_n X 0 dX8_runScript_0 rfl rfl ?_
  obtain ⟨x1, e2, E⟩ := gb_some E
  refine r_getR X dX8_runScript_1 f_X8_48 e2 ?_
  refine r_aload_n X 0 dX8_runScript_4 rfl rfl ?_
  obtain ⟨x3, e4, E⟩ := gb_some E
  refine r_getR X dX8_runScript_5 f_X8_55 e4 ?_
  obtain ⟨u8, e9, E⟩ := gb_some E
  obtain ⟨r5, g6, e7, E⟩ := cb_some E
  refine r_callV0 X hl0 (ci := 0) dX8_runScript_8 y_X0_readScript m_X8_119 rfl rfl e9 (t_x0_readScript (l := l) (G := G) e7) rfl rfl (Nat.le_of_ble_eq_true rfl) (by decide) ?_
  refine r_istore_n X 1 (L1 := [(1, .int r5), (0, .ref p)]) dX8_runScript_11 rfl (by decide) rfl ?_
  refine r_aload_n X 0 dX8_runScript_12 rfl rfl ?_
  obtain ⟨x10, e11, E⟩ := gb_some E
  refine r_getR X dX8_runScript_13 f_X8_48 e11 ?_
  obtain ⟨x12, e13, E⟩ := gb_some E
  refine r_getR X dX8_runScript_16 f_X8_66 e13 ?_
  refine r_iconst X (v := 0) dX8_runScript_19 (by decide) ?_
  obtain ⟨g14, e15, E⟩ := gb_some E
  refine r_put X dX8_runScript_20 f_X8_82 rfl rfl e15 ?_
  refine r_iload_n X 1 dX8_runScript_23 rfl rfl ?_
  refine r_if_ne X 29 dX8_runScript_24 (by decide) (fun c16 => ?_) (fun c16 => ?_)
  · rw [if_neg c16] at E
    refine r_iconst X (v := 0) dX8_runScript_29 (by decide) ?_
    refine r_istore_n X 2 (L1 := [(2, .int 0), (1, .int r5), (0, .ref p)]) dX8_runScript_30 rfl (by decide) rfl ?_
    obtain ⟨t17, g18, e19, E⟩ := cb_some E
    rcases t17 with t20 | t21
    · rw [Sum.elim_inl] at E
      refine r_pick (by rfl : lpick [(2, .int 0), (1, .int r5), (0, .ref p)] [2, 0] = _) (t_x8_runScript_l31_r X hl0 hr hnm _ _ _ _ _ e19 ?_)
      refine r_aload_n X 0 dX8_runScript_121 rfl rfl ?_
      obtain ⟨x22, e23, E⟩ := gb_some E
      refine r_getR X dX8_runScript_122 f_X8_55 e23 ?_
      obtain ⟨x24, e25, E⟩ := gb_some E
      refine r_getI X dX8_runScript_125 f_X8_123 e25 ?_
      cases E
      exact r_iret X hr dX8_runScript_128 (by decide) (by decide)
    · rw [Sum.elim_inr] at E
      cases E
      exact r_pick (by rfl : lpick [(2, .int 0), (1, .int r5), (0, .ref p)] [2, 0] = _) (t_x8_runScript_l31_r X hl0 hr hnm _ _ _ _ _ e19 ⟨_, _, by decide, by decide, rfl⟩)
  · rw [if_pos c16] at E
    refine r_iconst X (v := (-1)) dX8_runScript_27 (by decide) ?_
    cases E
    exact r_iret X hr dX8_runScript_28 (by decide) (by decide)
theorem t_x8_runScript {l : Launch} {G : GG} {p : Nat} {g : AH} {r : Int32} {g1 : AH} (E : x8_runScript p g = some (r, g1)) : Ct l G yX8_runScript cX8_runScript 6 (some .int) ⟨9, 0, 0, 287⟩ [.ref p] g (some (.int r)) g1 :=
  ct_of (L0 := [(0, .ref p)]) y_X8_runScript rfl (Nat.le_of_ble_eq_true rfl) fun M hl0 X hr hnm => t_x8_runScript_b X hl0 hr hnm E
set_option maxHeartbeats 4000000 in
set_option maxRecDepth 100000 in
theorem t_x8_errorCode_b {l : Launch} {G : GG} {M : MC} (X : CX M G cX8_errorCode 1 RX8 ⟨1, 0, 0, 60⟩) (hl0 : M.2.1 = l) (hr : (mM M).sig.returnType = (some .int)) (hnm : (mM M).name = yX8_errorCode.name) {p : Nat} {g : AH} {r : Int32} {g1 : AH} (E : x8_errorCode p g = some (r, g1)) : WW M G 1 (RQ M G (some (.int r)) g1 0 0) 0 0 g 0 [(0, .ref p)] [] := by
  unfold x8_errorCode at E
  refine r_aload_n X 0 dX8_errorCode_0 rfl rfl ?_
  obtain ⟨x1, e2, E⟩ := gb_some E
  refine r_getR X dX8_errorCode_1 f_X8_48 e2 ?_
  obtain ⟨x3, e4, E⟩ := gb_some E
  refine r_getI X dX8_errorCode_4 f_X8_146 e4 ?_
  cases E
  exact r_iret X hr dX8_errorCode_7 (by decide) (by decide)
theorem t_x8_errorCode {l : Launch} {G : GG} {p : Nat} {g : AH} {r : Int32} {g1 : AH} (E : x8_errorCode p g = some (r, g1)) : Ct l G yX8_errorCode cX8_errorCode 1 (some .int) ⟨1, 0, 0, 60⟩ [.ref p] g (some (.int r)) g1 :=
  ct_of (L0 := [(0, .ref p)]) y_X8_errorCode rfl (Nat.le_of_ble_eq_true rfl) fun M hl0 X hr hnm => t_x8_errorCode_b X hl0 hr hnm E
set_option maxHeartbeats 4000000 in
set_option maxRecDepth 100000 in
theorem t_x8_errorPosition_b {l : Launch} {G : GG} {M : MC} (X : CX M G cX8_errorPosition 1 RX8 ⟨1, 0, 0, 60⟩) (hl0 : M.2.1 = l) (hr : (mM M).sig.returnType = (some .int)) (hnm : (mM M).name = yX8_errorPosition.name) {p : Nat} {g : AH} {r : Int32} {g1 : AH} (E : x8_errorPosition p g = some (r, g1)) : WW M G 1 (RQ M G (some (.int r)) g1 0 0) 0 0 g 0 [(0, .ref p)] [] := by
  unfold x8_errorPosition at E
  refine r_aload_n X 0 dX8_errorPosition_0 rfl rfl ?_
  obtain ⟨x1, e2, E⟩ := gb_some E
  refine r_getR X dX8_errorPosition_1 f_X8_48 e2 ?_
  obtain ⟨x3, e4, E⟩ := gb_some E
  refine r_getI X dX8_errorPosition_4 f_X8_149 e4 ?_
  cases E
  exact r_iret X hr dX8_errorPosition_7 (by decide) (by decide)
theorem t_x8_errorPosition {l : Launch} {G : GG} {p : Nat} {g : AH} {r : Int32} {g1 : AH} (E : x8_errorPosition p g = some (r, g1)) : Ct l G yX8_errorPosition cX8_errorPosition 1 (some .int) ⟨1, 0, 0, 60⟩ [.ref p] g (some (.int r)) g1 :=
  ct_of (L0 := [(0, .ref p)]) y_X8_errorPosition rfl (Nat.le_of_ble_eq_true rfl) fun M hl0 X hr hnm => t_x8_errorPosition_b X hl0 hr hnm E
set_option maxHeartbeats 4000000 in
set_option maxRecDepth 100000 in
theorem t_x8_hour_b {l : Launch} {G : GG} {M : MC} (X : CX M G cX8_hour 1 RX8 ⟨1, 0, 0, 60⟩) (hl0 : M.2.1 = l) (hr : (mM M).sig.returnType = (some .int)) (hnm : (mM M).name = yX8_hour.name) {p : Nat} {g : AH} {r : Int32} {g1 : AH} (E : x8_hour p g = some (r, g1)) : WW M G 1 (RQ M G (some (.int r)) g1 0 0) 0 0 g 0 [(0, .ref p)] [] := by
  unfold x8_hour at E
  refine r_aload_n X 0 dX8_hour_0 rfl rfl ?_
  obtain ⟨x1, e2, E⟩ := gb_some E
  refine r_getR X dX8_hour_1 f_X8_10 e2 ?_
  obtain ⟨x3, e4, E⟩ := gb_some E
  refine r_getI X dX8_hour_4 f_X8_152 e4 ?_
  cases E
  exact r_iret X hr dX8_hour_7 (by decide) (by decide)
theorem t_x8_hour {l : Launch} {G : GG} {p : Nat} {g : AH} {r : Int32} {g1 : AH} (E : x8_hour p g = some (r, g1)) : Ct l G yX8_hour cX8_hour 1 (some .int) ⟨1, 0, 0, 60⟩ [.ref p] g (some (.int r)) g1 :=
  ct_of (L0 := [(0, .ref p)]) y_X8_hour rfl (Nat.le_of_ble_eq_true rfl) fun M hl0 X hr hnm => t_x8_hour_b X hl0 hr hnm E
set_option maxHeartbeats 4000000 in
set_option maxRecDepth 100000 in
theorem t_x3_hoursToDawn_b {l : Launch} {G : GG} {M : MC} (X : CX M G cX3_hoursToDawn 1 RX3 ⟨1, 0, 0, 60⟩) (hl0 : M.2.1 = l) (hr : (mM M).sig.returnType = (some .int)) (hnm : (mM M).name = yX3_hoursToDawn.name) {p : Nat} {g : AH} {r : Int32} {g1 : AH} (E : x3_hoursToDawn p g = some (r, g1)) : WW M G 1 (RQ M G (some (.int r)) g1 0 0) 0 0 g 0 [(0, .ref p)] [] := by
  unfold x3_hoursToDawn at E
  refine r_bipush X (v := 8) dX3_hoursToDawn_0 (by decide) ?_
  refine r_aload_n X 0 dX3_hoursToDawn_2 rfl rfl ?_
  obtain ⟨x1, e2, E⟩ := gb_some E
  refine r_getI X dX3_hoursToDawn_3 f_X3_51 e2 ?_
  refine r_bipush X (v := 8) dX3_hoursToDawn_6 (by decide) ?_
  refine r_irem X dX3_hoursToDawn_8 (by decide) ?_
  refine r_isub X dX3_hoursToDawn_9 ?_
  cases E
  exact r_iret X hr dX3_hoursToDawn_10 (by decide) (by decide)
theorem t_x3_hoursToDawn {l : Launch} {G : GG} {p : Nat} {g : AH} {r : Int32} {g1 : AH} (E : x3_hoursToDawn p g = some (r, g1)) : Ct l G yX3_hoursToDawn cX3_hoursToDawn 1 (some .int) ⟨1, 0, 0, 60⟩ [.ref p] g (some (.int r)) g1 :=
  ct_of (L0 := [(0, .ref p)]) y_X3_hoursToDawn rfl (Nat.le_of_ble_eq_true rfl) fun M hl0 X hr hnm => t_x3_hoursToDawn_b X hl0 hr hnm E
set_option maxHeartbeats 4000000 in
set_option maxRecDepth 100000 in
theorem t_x8_hoursUntilDawn_b {l : Launch} {G : GG} {M : MC} (X : CX M G cX8_hoursUntilDawn 1 RX8 ⟨2, 0, 0, 80⟩) (hl0 : M.2.1 = l) (hr : (mM M).sig.returnType = (some .int)) (hnm : (mM M).name = yX8_hoursUntilDawn.name) {p : Nat} {g : AH} {r : Int32} {g1 : AH} (E : x8_hoursUntilDawn p g = some (r, g1)) : WW M G 1 (RQ M G (some (.int r)) g1 0 0) 0 0 g 0 [(0, .ref p)] [] := by
  unfold x8_hoursUntilDawn at E
  refine r_aload_n X 0 dX8_hoursUntilDawn_0 rfl rfl ?_
  obtain ⟨x1, e2, E⟩ := gb_some E
  refine r_getR X dX8_hoursUntilDawn_1 f_X8_10 e2 ?_
  obtain ⟨u6, e7, E⟩ := gb_some E
  obtain ⟨r3, g4, e5, E⟩ := cb_some E
  refine r_callV0 X hl0 (ci := 3) dX8_hoursUntilDawn_4 y_X3_hoursToDawn m_X8_155 rfl rfl e7 (t_x3_hoursToDawn (l := l) (G := G) e5) rfl rfl (Nat.le_of_ble_eq_true rfl) (by decide) ?_
  cases E
  exact r_iret X hr dX8_hoursUntilDawn_7 (by decide) (by decide)
theorem t_x8_hoursUntilDawn {l : Launch} {G : GG} {p : Nat} {g : AH} {r : Int32} {g1 : AH} (E : x8_hoursUntilDawn p g = some (r, g1)) : Ct l G yX8_hoursUntilDawn cX8_hoursUntilDawn 1 (some .int) ⟨2, 0, 0, 80⟩ [.ref p] g (some (.int r)) g1 :=
  ct_of (L0 := [(0, .ref p)]) y_X8_hoursUntilDawn rfl (Nat.le_of_ble_eq_true rfl) fun M hl0 X hr hnm => t_x8_hoursUntilDawn_b X hl0 hr hnm E
set_option maxHeartbeats 4000000 in
set_option maxRecDepth 100000 in
theorem t_x8_logs_b {l : Launch} {G : GG} {M : MC} (X : CX M G cX8_logs 1 RX8 ⟨1, 0, 0, 60⟩) (hl0 : M.2.1 = l) (hr : (mM M).sig.returnType = (some .int)) (hnm : (mM M).name = yX8_logs.name) {p : Nat} {g : AH} {r : Int32} {g1 : AH} (E : x8_logs p g = some (r, g1)) : WW M G 1 (RQ M G (some (.int r)) g1 0 0) 0 0 g 0 [(0, .ref p)] [] := by
  unfold x8_logs at E
  refine r_aload_n X 0 dX8_logs_0 rfl rfl ?_
  obtain ⟨x1, e2, E⟩ := gb_some E
  refine r_getR X dX8_logs_1 f_X8_10 e2 ?_
  obtain ⟨x3, e4, E⟩ := gb_some E
  refine r_getI X dX8_logs_4 f_X8_159 e4 ?_
  cases E
  exact r_iret X hr dX8_logs_7 (by decide) (by decide)
theorem t_x8_logs {l : Launch} {G : GG} {p : Nat} {g : AH} {r : Int32} {g1 : AH} (E : x8_logs p g = some (r, g1)) : Ct l G yX8_logs cX8_logs 1 (some .int) ⟨1, 0, 0, 60⟩ [.ref p] g (some (.int r)) g1 :=
  ct_of (L0 := [(0, .ref p)]) y_X8_logs rfl (Nat.le_of_ble_eq_true rfl) fun M hl0 X hr hnm => t_x8_logs_b X hl0 hr hnm E
set_option maxHeartbeats 4000000 in
set_option maxRecDepth 100000 in
theorem t_x8_temperature_b {l : Launch} {G : GG} {M : MC} (X : CX M G cX8_temperature 1 RX8 ⟨2, 0, 0, 81⟩) (hl0 : M.2.1 = l) (hr : (mM M).sig.returnType = (some .int)) (hnm : (mM M).name = yX8_temperature.name) {p : Nat} {g : AH} {r : Int32} {g1 : AH} (E : x8_temperature p g = some (r, g1)) : WW M G 1 (RQ M G (some (.int r)) g1 0 0) 0 0 g 0 [(0, .ref p)] [] := by
  unfold x8_temperature at E
  refine r_aload_n X 0 dX8_temperature_0 rfl rfl ?_
  obtain ⟨x1, e2, E⟩ := gb_some E
  refine r_getR X dX8_temperature_1 f_X8_10 e2 ?_
  obtain ⟨u6, e7, E⟩ := gb_some E
  obtain ⟨r3, g4, e5, E⟩ := cb_some E
  refine r_callV0 X hl0 (ci := 3) dX8_temperature_4 y_X3_temperatureInside m_X8_162 rfl rfl e7 (t_x3_temperatureInside (l := l) (G := G) e5) rfl rfl (Nat.le_of_ble_eq_true rfl) (by decide) ?_
  cases E
  exact r_iret X hr dX8_temperature_7 (by decide) (by decide)
theorem t_x8_temperature {l : Launch} {G : GG} {p : Nat} {g : AH} {r : Int32} {g1 : AH} (E : x8_temperature p g = some (r, g1)) : Ct l G yX8_temperature cX8_temperature 1 (some .int) ⟨2, 0, 0, 81⟩ [.ref p] g (some (.int r)) g1 :=
  ct_of (L0 := [(0, .ref p)]) y_X8_temperature rfl (Nat.le_of_ble_eq_true rfl) fun M hl0 X hr hnm => t_x8_temperature_b X hl0 hr hnm E
set_option maxHeartbeats 4000000 in
set_option maxRecDepth 100000 in
theorem t_x8_demandBunk_b {l : Launch} {G : GG} {M : MC} (X : CX M G cX8_demandBunk 2 RX8 ⟨7, 1, 6, 200⟩) (hl0 : M.2.1 = l) (hr : (mM M).sig.returnType = none) (hnm : (mM M).name = yX8_demandBunk.name) (hnt : ∀ x ∈ (mC M).exceptionTable.toList, False) (hst : l.stackTraces = false) {p : Nat} {b0 : Int32} {g : AH} {o : (Unit ⊕ String)} {g1 : AH} (E : x8_demandBunk p b0 g = some (o, g1)) : WW M G 2 (RX M G (ovU o) g1 1 6) 0 0 g 0 [(0, .ref p), (1, .int b0)] [] := by
  unfold x8_demandBunk at E
  refine r_aload_n X 0 dX8_demandBunk_0 rfl rfl ?_
  obtain ⟨x1, e2, E⟩ := gb_some E
  refine r_getR X dX8_demandBunk_1 f_X8_10 e2 ?_
  refine r_iload_n X 1 dX8_demandBunk_4 rfl rfl ?_
  obtain ⟨u6, e7, E⟩ := gb_some E
  obtain ⟨r3, g4, e5, E⟩ := cb_some E
  refine r_callV0 X hl0 (ci := 3) dX8_demandBunk_5 y_X3_hasBunk m_X8_188 rfl rfl e7 (t_x3_hasBunk (l := l) (G := G) e5) rfl rfl (Nat.le_of_ble_eq_true rfl) (by decide) ?_
  refine r_if_ne X 21 dX8_demandBunk_8 (by decide) (fun c8 => ?_) (fun c8 => ?_)
  · rw [if_neg c8] at E
    cases E
    exact r_ret (r_vret X hr dX8_demandBunk_21 (by decide) (by decide))
  · rw [if_pos c8] at E
    cases E
    exact r_throw X hl0 hst hnt th_X8_195 k_X8_191 (List.mem_of_getElem? (i := 3) rfl) dX8_demandBunk_11 dX8_demandBunk_14 dX8_demandBunk_15 dX8_demandBunk_17 dX8_demandBunk_20 ⟨by decide, Nat.le_of_ble_eq_true rfl⟩ (by decide) (by decide)
theorem t_x8_demandBunk {l : Launch} (hst : l.stackTraces = false) {G : GG} {p : Nat} {b0 : Int32} {g : AH} {o : (Unit ⊕ String)} {g1 : AH} (E : x8_demandBunk p b0 g = some (o, g1)) : CtX l G yX8_demandBunk cX8_demandBunk 2 none ⟨7, 1, 6, 200⟩ [.ref p, .int b0] g (ovU o) g1 :=
  ctX_of (L0 := [(0, .ref p), (1, .int b0)]) y_X8_demandBunk rfl (Nat.le_of_ble_eq_true rfl) fun M hl0 X hr hnm hnt => t_x8_demandBunk_b X hl0 hr hnm hnt hst E
set_option maxHeartbeats 4000000 in
set_option maxRecDepth 100000 in
theorem t_x8_hikerIn_b {l : Launch} {G : GG} {M : MC} (X : CX M G cX8_hikerIn 2 RX8 ⟨8, 1, 6, 221⟩) (hl0 : M.2.1 = l) (hr : (mM M).sig.returnType = (some .int)) (hnm : (mM M).name = yX8_hikerIn.name) (hnt : ∀ x ∈ (mC M).exceptionTable.toList, False) (hst : l.stackTraces = false) {p : Nat} {b0 : Int32} {g : AH} {o : (Int32 ⊕ String)} {g1 : AH} (E : x8_hikerIn p b0 g = some (o, g1)) : WW M G 2 (RX M G (ovI o) g1 1 6) 0 0 g 0 [(0, .ref p), (1, .int b0)] [] := by
  unfold x8_hikerIn at E
  refine r_aload_n X 0 dX8_hikerIn_0 rfl rfl ?_
  refine r_iload_n X 1 dX8_hikerIn_1 rfl rfl ?_
  obtain ⟨u4, e5, E⟩ := gb_some E
  obtain ⟨r1, g2, e3, E⟩ := cb_some E
  rcases r1 with v6 | w7
  · rw [Sum.elim_inl] at E
    refine r_callVX X hl0 (ci := 8) dX8_hikerIn_2 y_X8_demandBunk m_X8_165 rfl rfl e5 (t_x8_demandBunk (l := l) hst (G := G) e3) rfl rfl (Nat.le_of_ble_eq_true rfl) (by decide) ?_
    refine r_aload_n X 0 dX8_hikerIn_5 rfl rfl ?_
    obtain ⟨x8, e9, E⟩ := gb_some E
    refine r_getR X dX8_hikerIn_6 f_X8_10 e9 ?_
    refine r_iload_n X 1 dX8_hikerIn_9 rfl rfl ?_
    obtain ⟨u13, e14, E⟩ := gb_some E
    obtain ⟨r10, g11, e12, E⟩ := cb_some E
    refine r_callV0 X hl0 (ci := 3) dX8_hikerIn_10 y_X3_sleeperIn m_X8_168 rfl rfl e14 (t_x3_sleeperIn (l := l) (G := G) e12) rfl rfl (Nat.le_of_ble_eq_true rfl) (by decide) ?_
    cases E
    exact r_ret (r_iret X hr dX8_hikerIn_13 (by decide) (by decide))
  · rw [Sum.elim_inr] at E
    cases E
    exact r_thrV X hl0 hnt (ci := 8) dX8_hikerIn_2 y_X8_demandBunk m_X8_165 rfl rfl e5 (t_x8_demandBunk (l := l) hst (G := G) e3) rfl rfl (Nat.le_of_ble_eq_true rfl) (by decide) (by decide) (by decide)
theorem t_x8_hikerIn {l : Launch} (hst : l.stackTraces = false) {G : GG} {p : Nat} {b0 : Int32} {g : AH} {o : (Int32 ⊕ String)} {g1 : AH} (E : x8_hikerIn p b0 g = some (o, g1)) : CtX l G yX8_hikerIn cX8_hikerIn 2 (some .int) ⟨8, 1, 6, 221⟩ [.ref p, .int b0] g (ovI o) g1 :=
  ctX_of (L0 := [(0, .ref p), (1, .int b0)]) y_X8_hikerIn rfl (Nat.le_of_ble_eq_true rfl) fun M hl0 X hr hnm hnt => t_x8_hikerIn_b X hl0 hr hnm hnt hst E
set_option maxHeartbeats 4000000 in
set_option maxRecDepth 100000 in
theorem t_x8_noiseIn_b {l : Launch} {G : GG} {M : MC} (X : CX M G cX8_noiseIn 2 RX8 ⟨8, 1, 6, 221⟩) (hl0 : M.2.1 = l) (hr : (mM M).sig.returnType = (some .int)) (hnm : (mM M).name = yX8_noiseIn.name) (hnt : ∀ x ∈ (mC M).exceptionTable.toList, False) (hst : l.stackTraces = false) {p : Nat} {b0 : Int32} {g : AH} {o : (Int32 ⊕ String)} {g1 : AH} (E : x8_noiseIn p b0 g = some (o, g1)) : WW M G 2 (RX M G (ovI o) g1 1 6) 0 0 g 0 [(0, .ref p), (1, .int b0)] [] := by
  unfold x8_noiseIn at E
  refine r_aload_n X 0 dX8_noiseIn_0 rfl rfl ?_
  refine r_iload_n X 1 dX8_noiseIn_1 rfl rfl ?_
  obtain ⟨u4, e5, E⟩ := gb_some E
  obtain ⟨r1, g2, e3, E⟩ := cb_some E
  rcases r1 with v6 | w7
  · rw [Sum.elim_inl] at E
    refine r_callVX X hl0 (ci := 8) dX8_noiseIn_2 y_X8_demandBunk m_X8_165 rfl rfl e5 (t_x8_demandBunk (l := l) hst (G := G) e3) rfl rfl (Nat.le_of_ble_eq_true rfl) (by decide) ?_
    refine r_aload_n X 0 dX8_noiseIn_5 rfl rfl ?_
    obtain ⟨x8, e9, E⟩ := gb_some E
    refine r_getR X dX8_noiseIn_6 f_X8_10 e9 ?_
    refine r_iload_n X 1 dX8_noiseIn_9 rfl rfl ?_
    obtain ⟨u13, e14, E⟩ := gb_some E
    obtain ⟨r10, g11, e12, E⟩ := cb_some E
    refine r_callV0 X hl0 (ci := 3) dX8_noiseIn_10 y_X3_noiseAt m_X8_172 rfl rfl e14 (t_x3_noiseAt (l := l) (G := G) e12) rfl rfl (Nat.le_of_ble_eq_true rfl) (by decide) ?_
    cases E
    exact r_ret (r_iret X hr dX8_noiseIn_13 (by decide) (by decide))
  · rw [Sum.elim_inr] at E
    cases E
    exact r_thrV X hl0 hnt (ci := 8) dX8_noiseIn_2 y_X8_demandBunk m_X8_165 rfl rfl e5 (t_x8_demandBunk (l := l) hst (G := G) e3) rfl rfl (Nat.le_of_ble_eq_true rfl) (by decide) (by decide) (by decide)
theorem t_x8_noiseIn {l : Launch} (hst : l.stackTraces = false) {G : GG} {p : Nat} {b0 : Int32} {g : AH} {o : (Int32 ⊕ String)} {g1 : AH} (E : x8_noiseIn p b0 g = some (o, g1)) : CtX l G yX8_noiseIn cX8_noiseIn 2 (some .int) ⟨8, 1, 6, 221⟩ [.ref p, .int b0] g (ovI o) g1 :=
  ctX_of (L0 := [(0, .ref p), (1, .int b0)]) y_X8_noiseIn rfl (Nat.le_of_ble_eq_true rfl) fun M hl0 X hr hnm hnt => t_x8_noiseIn_b X hl0 hr hnm hnt hst E
set_option maxHeartbeats 4000000 in
set_option maxRecDepth 100000 in
theorem t_x3_isQuieter_j40 {l : Launch} {G : GG} {M : MC} (X : CX M G cX3_isQuieter 5 RX3 ⟨2, 0, 0, 84⟩) (hl0 : M.2.1 = l) (hr : (mM M).sig.returnType = (some .boolean)) (hnm : (mM M).name = yX3_isQuieter.name)  {g : AH} {r : Int32} {g1 : AH} (E : x3_isQuieter_j40  g = some (r, g1)) : WW M G 5 (RQ M G (some (.int r)) g1 0 0) 0 0 g 40 [] [] := by
  unfold x3_isQuieter_j40 at E
  refine r_iconst X (v := 1) dX3_isQuieter_40 (by decide) ?_
  refine r_goto X 45 dX3_isQuieter_41 (by decide) ?_
  cases E
  exact r_zret X hr (Or.inr rfl) dX3_isQuieter_45 (by decide) (by decide)
set_option maxHeartbeats 4000000 in
set_option maxRecDepth 100000 in
theorem t_x3_isQuieter_b {l : Launch} {G : GG} {M : MC} (X : CX M G cX3_isQuieter 5 RX3 ⟨2, 0, 0, 84⟩) (hl0 : M.2.1 = l) (hr : (mM M).sig.returnType = (some .boolean)) (hnm : (mM M).name = yX3_isQuieter.name) {p : Nat} {b0 : Int32} {b1 : Int32} {g : AH} {r : Int32} {g1 : AH} (E : x3_isQuieter p b0 b1 g = some (r, g1)) : WW M G 5 (RQ M G (some (.int r)) g1 0 0) 0 0 g 0 [(0, .ref p), (1, .int b0), (2, .int b1)] [] := by
  unfold x3_isQuieter at E
  refine r_aload_n X 0 dX3_isQuieter_0 rfl rfl ?_
  refine r_iload_n X 1 dX3_isQuieter_1 rfl rfl ?_
  obtain ⟨u4, e5, E⟩ := gb_some E
  obtain ⟨r1, g2, e3, E⟩ := cb_some E
  refine r_callV0 X hl0 (ci := 3) dX3_isQuieter_2 y_X3_noiseAt m_X3_124 rfl rfl e5 (t_x3_noiseAt (l := l) (G := G) e3) rfl rfl (Nat.le_of_ble_eq_true rfl) (by decide) ?_
  refine r_istore_n X 3 (L1 := [(3, .int r1), (0, .ref p), (1, .int b0), (2, .int b1)]) dX3_isQuieter_5 rfl (by decide) rfl ?_
  refine r_aload_n X 0 dX3_isQuieter_6 rfl rfl ?_
  refine r_iload_n X 2 dX3_isQuieter_7 rfl rfl ?_
  obtain ⟨u9, e10, E⟩ := gb_some E
  obtain ⟨r6, g7, e8, E⟩ := cb_some E
  refine r_callV0 X hl0 (ci := 3) dX3_isQuieter_8 y_X3_noiseAt m_X3_124 rfl rfl e10 (t_x3_noiseAt (l := l) (G := G) e8) rfl rfl (Nat.le_of_ble_eq_true rfl) (by decide) ?_
  refine r_istore X (L1 := [(4, .int r6), (3, .int r1), (0, .ref p), (1, .int b0), (2, .int b1)]) dX3_isQuieter_11 (by decide) rfl ?_
  refine r_iload_n X 3 dX3_isQuieter_13 rfl rfl ?_
  refine r_iload X dX3_isQuieter_14 rfl ?_
  refine r_icmp_lt X 40 dX3_isQuieter_16 (by decide) (fun c11 => ?_) (fun c11 => ?_)
  · rw [if_pos c11] at E
    exact r_pick (by rfl : lpick [(4, .int r6), (3, .int r1), (0, .ref p), (1, .int b0), (2, .int b1)] [] = _) (t_x3_isQuieter_j40 X hl0 hr hnm E)
  · rw [if_neg c11] at E
    refine r_iload_n X 3 dX3_isQuieter_19 rfl rfl ?_
    refine r_iload X dX3_isQuieter_20 rfl ?_
    refine r_icmp_ne X 44 dX3_isQuieter_22 (by decide) (fun c12 => ?_) (fun c12 => ?_)
    · rw [if_neg c12] at E
      refine r_iconst X (v := 0) dX3_isQuieter_44 (by decide) ?_
      cases E
      exact r_zret X hr (Or.inl rfl) dX3_isQuieter_45 (by decide) (by decide)
    · rw [if_pos c12] at E
      refine r_aload_n X 0 dX3_isQuieter_25 rfl rfl ?_
      obtain ⟨x13, e14, E⟩ := gb_some E
      refine r_getR X dX3_isQuieter_26 f_X3_9 e14 ?_
      refine r_iload_n X 1 dX3_isQuieter_29 rfl rfl ?_
      obtain ⟨x15, e16, E⟩ := gb_some E
      refine r_iald X dX3_isQuieter_30 e16 ?_
      refine r_aload_n X 0 dX3_isQuieter_31 rfl rfl ?_
      obtain ⟨x17, e18, E⟩ := gb_some E
      refine r_getR X dX3_isQuieter_32 f_X3_9 e18 ?_
      refine r_iload_n X 2 dX3_isQuieter_35 rfl rfl ?_
      obtain ⟨x19, e20, E⟩ := gb_some E
      refine r_iald X dX3_isQuieter_36 e20 ?_
      refine r_icmp_le X 44 dX3_isQuieter_37 (by decide) (fun c21 => ?_) (fun c21 => ?_)
      · rw [if_pos c21] at E
        refine r_iconst X (v := 0) dX3_isQuieter_44 (by decide) ?_
        cases E
        exact r_zret X hr (Or.inl rfl) dX3_isQuieter_45 (by decide) (by decide)
      · rw [if_neg c21] at E
        exact r_pick (by rfl : lpick [(4, .int r6), (3, .int r1), (0, .ref p), (1, .int b0), (2, .int b1)] [] = _) (t_x3_isQuieter_j40 X hl0 hr hnm E)
theorem t_x3_isQuieter {l : Launch} {G : GG} {p : Nat} {b0 : Int32} {b1 : Int32} {g : AH} {r : Int32} {g1 : AH} (E : x3_isQuieter p b0 b1 g = some (r, g1)) : Ct l G yX3_isQuieter cX3_isQuieter 5 (some .boolean) ⟨2, 0, 0, 84⟩ [.ref p, .int b0, .int b1] g (some (.int r)) g1 :=
  ct_of (L0 := [(0, .ref p), (1, .int b0), (2, .int b1)]) y_X3_isQuieter rfl (Nat.le_of_ble_eq_true rfl) fun M hl0 X hr hnm => t_x3_isQuieter_b X hl0 hr hnm E
set_option maxHeartbeats 4000000 in
set_option maxRecDepth 100000 in
theorem t_x3_quietestEmptyBunk_j37_4 {l : Launch} {G : GG} {M : MC} (X : CX M G cX3_quietestEmptyBunk 3 RX3 ⟨3, 0, 0, 108⟩) (hl0 : M.2.1 = l) (hr : (mM M).sig.returnType = (some .int)) (hnm : (mM M).name = yX3_quietestEmptyBunk.name) {Q : State → Prop} {kc ks : Nat} {s9 : ((Int32 × Int32) ⊕ (Int32))} {g1 : AH} {a0 : Nat} {a1 : Int32} {a2 : Int32} (hc : ∀ s1, s9 = .inl s1 → WW M G 3 Q kc ks g1 4 [(0, .ref a0), (1, .int s1.1), (2, .int s1.2)] []) (hx : ∀ t, s9 = .inr t → WW M G 3 Q kc ks g1 43 [(1, .int t)] []) {g : AH} (E : x3_quietestEmptyBunk_j37_4 a0 a1 a2 g = some (s9, g1)) : WW M G 3 Q kc ks g 37 [(0, .ref a0), (1, .int a1), (2, .int a2)] [] := by
  unfold x3_quietestEmptyBunk_j37_4 at E
  refine r_iinc X (v := (a2 + 1)) (L1 := [(2, .int (a2 + 1)), (0, .ref a0), (1, .int a1)]) dX3_quietestEmptyBunk_37 rfl rfl (by decide) rfl ?_
  refine r_goto X 4 dX3_quietestEmptyBunk_40 (by decide) ?_
  cases E
  exact r_pick (by rfl : lpick [(2, .int (a2 + 1)), (0, .ref a0), (1, .int a1)] [1, 2, 0] = _) (hc _ rfl)
set_option maxHeartbeats 4000000 in
set_option maxRecDepth 100000 in
theorem t_x3_quietestEmptyBunk_j35_4 {l : Launch} {G : GG} {M : MC} (X : CX M G cX3_quietestEmptyBunk 3 RX3 ⟨3, 0, 0, 108⟩) (hl0 : M.2.1 = l) (hr : (mM M).sig.returnType = (some .int)) (hnm : (mM M).name = yX3_quietestEmptyBunk.name) {Q : State → Prop} {kc ks : Nat} {s9 : ((Int32 × Int32) ⊕ (Int32))} {g1 : AH} {a0 : Nat} {a2 : Int32} (hc : ∀ s1, s9 = .inl s1 → WW M G 3 Q kc ks g1 4 [(0, .ref a0), (1, .int s1.1), (2, .int s1.2)] []) (hx : ∀ t, s9 = .inr t → WW M G 3 Q kc ks g1 43 [(1, .int t)] []) {g : AH} (E : x3_quietestEmptyBunk_j35_4 a0 a2 g = some (s9, g1)) : WW M G 3 Q kc ks g 35 [(0, .ref a0), (2, .int a2)] [] := by
  unfold x3_quietestEmptyBunk_j35_4 at E
  refine r_iload_n X 2 dX3_quietestEmptyBunk_35 rfl rfl ?_
  refine r_istore_n X 1 (L1 := [(1, .int a2), (0, .ref a0), (2, .int a2)]) dX3_quietestEmptyBunk_36 rfl (by decide) rfl ?_
  exact r_pick (by rfl : lpick [(1, .int a2), (0, .ref a0), (2, .int a2)] [1, 0, 2] = _) (t_x3_quietestEmptyBunk_j37_4 X hl0 hr hnm hc hx E)
set_option maxHeartbeats 4000000 in
set_option maxRecDepth 100000 in
theorem t_x3_quietestEmptyBunk_l4 {l : Launch} {G : GG} {M : MC} (X : CX M G cX3_quietestEmptyBunk 3 RX3 ⟨3, 0, 0, 108⟩) (hl0 : M.2.1 = l) (hr : (mM M).sig.returnType = (some .int)) (hnm : (mM M).name = yX3_quietestEmptyBunk.name) {Q : State → Prop} {kc ks : Nat} {s9 : ((Int32 × Int32) ⊕ (Int32))} {g1 : AH} {a0 : Nat} {s0 : Int32 × Int32} (hc : ∀ s1, s9 = .inl s1 → WW M G 3 Q kc ks g1 4 [(0, .ref a0), (1, .int s1.1), (2, .int s1.2)] []) (hx : ∀ t, s9 = .inr t → WW M G 3 Q kc ks g1 43 [(1, .int t)] []) {g : AH} (E : x3_quietestEmptyBunk_l4 a0 s0 g = some (s9, g1)) : WW M G 3 Q kc ks g 4 [(0, .ref a0), (1, .int s0.1), (2, .int s0.2)] [] := by
  unfold x3_quietestEmptyBunk_l4 at E
  refine r_iload_n X 2 dX3_quietestEmptyBunk_4 rfl rfl ?_
  refine r_aload_n X 0 dX3_quietestEmptyBunk_5 rfl rfl ?_
  obtain ⟨x1, e2, E⟩ := gb_some E
  refine r_getI X dX3_quietestEmptyBunk_6 f_X3_69 e2 ?_
  refine r_icmp_ge X 43 dX3_quietestEmptyBunk_9 (by decide) (fun c3 => ?_) (fun c3 => ?_)
  · rw [if_pos c3] at E
    cases E
    exact r_pick (by rfl : lpick [(0, .ref a0), (1, .int s0.1), (2, .int s0.2)] [1] = _) (hx _ rfl)
  · rw [if_neg c3] at E
    refine r_aload_n X 0 dX3_quietestEmptyBunk_12 rfl rfl ?_
    refine r_iload_n X 2 dX3_quietestEmptyBunk_13 rfl rfl ?_
    obtain ⟨u7, e8, E⟩ := gb_some E
    obtain ⟨r4, g5, e6, E⟩ := cb_some E
    refine r_callV0 X hl0 (ci := 3) dX3_quietestEmptyBunk_14 y_X3_sleeperIn m_X3_127 rfl rfl e8 (t_x3_sleeperIn (l := l) (G := G) e6) rfl rfl (Nat.le_of_ble_eq_true rfl) (by decide) ?_
    refine r_iconst X (v := (-1)) dX3_quietestEmptyBunk_17 (by decide) ?_
    refine r_icmp_ne X 37 dX3_quietestEmptyBunk_18 (by decide) (fun c9 => ?_) (fun c9 => ?_)
    · rw [if_neg c9] at E
      exact r_pick (by rfl : lpick [(0, .ref a0), (1, .int s0.1), (2, .int s0.2)] [0, 1, 2] = _) (t_x3_quietestEmptyBunk_j37_4 X hl0 hr hnm hc hx E)
    · rw [if_pos c9] at E
      refine r_iload_n X 1 dX3_quietestEmptyBunk_21 rfl rfl ?_
      refine r_iconst X (v := (-1)) dX3_quietestEmptyBunk_22 (by decide) ?_
      refine r_icmp_eq X 35 dX3_quietestEmptyBunk_23 (by decide) (fun c10 => ?_) (fun c10 => ?_)
      · rw [if_pos c10] at E
        exact r_pick (by rfl : lpick [(0, .ref a0), (1, .int s0.1), (2, .int s0.2)] [0, 2] = _) (t_x3_quietestEmptyBunk_j35_4 X hl0 hr hnm hc hx E)
      · rw [if_neg c10] at E
        refine r_aload_n X 0 dX3_quietestEmptyBunk_26 rfl rfl ?_
        refine r_iload_n X 2 dX3_quietestEmptyBunk_27 rfl rfl ?_
        refine r_iload_n X 1 dX3_quietestEmptyBunk_28 rfl rfl ?_
        obtain ⟨u14, e15, E⟩ := gb_some E
        obtain ⟨r11, g12, e13, E⟩ := cb_some E
        refine r_callV0 X hl0 (ci := 3) dX3_quietestEmptyBunk_29 y_X3_isQuieter m_X3_130 rfl rfl e15 (t_x3_isQuieter (l := l) (G := G) e13) rfl rfl (Nat.le_of_ble_eq_true rfl) (by decide) ?_
        refine r_if_eq X 37 dX3_quietestEmptyBunk_32 (by decide) (fun c16 => ?_) (fun c16 => ?_)
        · rw [if_pos c16] at E
          exact r_pick (by rfl : lpick [(0, .ref a0), (1, .int s0.1), (2, .int s0.2)] [0, 1, 2] = _) (t_x3_quietestEmptyBunk_j37_4 X hl0 hr hnm hc hx E)
        · rw [if_neg c16] at E
          exact r_pick (by rfl : lpick [(0, .ref a0), (1, .int s0.1), (2, .int s0.2)] [0, 2] = _) (t_x3_quietestEmptyBunk_j35_4 X hl0 hr hnm hc hx E)
set_option maxHeartbeats 4000000 in
theorem t_x3_quietestEmptyBunk_l4_r {l : Launch} {G : GG} {M : MC} (X : CX M G cX3_quietestEmptyBunk 3 RX3 ⟨3, 0, 0, 108⟩) (hl0 : M.2.1 = l) (hr : (mM M).sig.returnType = (some .int)) (hnm : (mM M).name = yX3_quietestEmptyBunk.name) {Q : State → Prop} {kc ks : Nat} {a0 : Nat} : ∀ (n : Nat) (s0 : Int32 × Int32) (g : AH) (t : (Int32)) (g1 : AH), loopX (x3_quietestEmptyBunk_l4 a0) n s0 g = some (t, g1) → WW M G 3 Q kc ks g1 43 [(1, .int t)] [] → WW M G 3 Q kc ks g 4 [(0, .ref a0), (1, .int s0.1), (2, .int s0.2)] [] :=
  loop_cps (K := fun t g1 => WW M G 3 Q kc ks g1 43 [(1, .int t)] []) (fun _ s0 g => WW M G 3 Q kc ks g 4 [(0, .ref a0), (1, .int s0.1), (2, .int s0.2)] []) (fun n s0 g st g1 E hc hx => t_x3_quietestEmptyBunk_l4 X hl0 hr hnm hc hx E)
set_option maxHeartbeats 4000000 in
set_option maxRecDepth 100000 in
theorem t_x3_quietestEmptyBunk_b {l : Launch} {G : GG} {M : MC} (X : CX M G cX3_quietestEmptyBunk 3 RX3 ⟨3, 0, 0, 108⟩) (hl0 : M.2.1 = l) (hr : (mM M).sig.returnType = (some .int)) (hnm : (mM M).name = yX3_quietestEmptyBunk.name) {p : Nat} {g : AH} {r : Int32} {g1 : AH} (E : x3_quietestEmptyBunk p g = some (r, g1)) : WW M G 3 (RQ M G (some (.int r)) g1 0 0) 0 0 g 0 [(0, .ref p)] [] := by
  unfold x3_quietestEmptyBunk at E
  refine r_iconst X (v := (-1)) dX3_quietestEmptyBunk_0 (by decide) ?_
  refine r_istore_n X 1 (L1 := [(1, .int (-1)), (0, .ref p)]) dX3_quietestEmptyBunk_1 rfl (by decide) rfl ?_
  refine r_iconst X (v := 0) dX3_quietestEmptyBunk_2 (by decide) ?_
  refine r_istore_n X 2 (L1 := [(2, .int 0), (1, .int (-1)), (0, .ref p)]) dX3_quietestEmptyBunk_3 rfl (by decide) rfl ?_
  obtain ⟨t1, g2, e3, E⟩ := cb_some E
  refine r_pick (by rfl : lpick [(2, .int 0), (1, .int (-1)), (0, .ref p)] [2, 1, 0] = _) (t_x3_quietestEmptyBunk_l4_r X hl0 hr hnm _ _ _ _ _ e3 ?_)
  refine r_iload_n X 1 dX3_quietestEmptyBunk_43 rfl rfl ?_
  cases E
  exact r_iret X hr dX3_quietestEmptyBunk_44 (by decide) (by decide)
theorem t_x3_quietestEmptyBunk {l : Launch} {G : GG} {p : Nat} {g : AH} {r : Int32} {g1 : AH} (E : x3_quietestEmptyBunk p g = some (r, g1)) : Ct l G yX3_quietestEmptyBunk cX3_quietestEmptyBunk 3 (some .int) ⟨3, 0, 0, 108⟩ [.ref p] g (some (.int r)) g1 :=
  ct_of (L0 := [(0, .ref p)]) y_X3_quietestEmptyBunk rfl (Nat.le_of_ble_eq_true rfl) fun M hl0 X hr hnm => t_x3_quietestEmptyBunk_b X hl0 hr hnm E
set_option maxHeartbeats 4000000 in
set_option maxRecDepth 100000 in
theorem t_x8_quietestBunk_b {l : Launch} {G : GG} {M : MC} (X : CX M G cX8_quietestBunk 1 RX8 ⟨4, 0, 0, 130⟩) (hl0 : M.2.1 = l) (hr : (mM M).sig.returnType = (some .int)) (hnm : (mM M).name = yX8_quietestBunk.name) {p : Nat} {g : AH} {r : Int32} {g1 : AH} (E : x8_quietestBunk p g = some (r, g1)) : WW M G 1 (RQ M G (some (.int r)) g1 0 0) 0 0 g 0 [(0, .ref p)] [] := by
  unfold x8_quietestBunk at E
  refine r_aload_n X 0 dX8_quietestBunk_0 rfl rfl ?_
  obtain ⟨x1, e2, E⟩ := gb_some E
  refine r_getR X dX8_quietestBunk_1 f_X8_10 e2 ?_
  obtain ⟨u6, e7, E⟩ := gb_some E
  obtain ⟨r3, g4, e5, E⟩ := cb_some E
  refine r_callV0 X hl0 (ci := 3) dX8_quietestBunk_4 y_X3_quietestEmptyBunk m_X8_175 rfl rfl e7 (t_x3_quietestEmptyBunk (l := l) (G := G) e5) rfl rfl (Nat.le_of_ble_eq_true rfl) (by decide) ?_
  cases E
  exact r_iret X hr dX8_quietestBunk_7 (by decide) (by decide)
theorem t_x8_quietestBunk {l : Launch} {G : GG} {p : Nat} {g : AH} {r : Int32} {g1 : AH} (E : x8_quietestBunk p g = some (r, g1)) : Ct l G yX8_quietestBunk cX8_quietestBunk 1 (some .int) ⟨4, 0, 0, 130⟩ [.ref p] g (some (.int r)) g1 :=
  ct_of (L0 := [(0, .ref p)]) y_X8_quietestBunk rfl (Nat.le_of_ble_eq_true rfl) fun M hl0 X hr hnm => t_x8_quietestBunk_b X hl0 hr hnm E
set_option maxHeartbeats 4000000 in
set_option maxRecDepth 100000 in
theorem t_x3_longestRowOfSleepers_j30_6 {l : Launch} {G : GG} {M : MC} (X : CX M G cX3_longestRowOfSleepers 4 RX3 ⟨3, 0, 0, 150⟩) (hl0 : M.2.1 = l) (hr : (mM M).sig.returnType = (some .int)) (hnm : (mM M).name = yX3_longestRowOfSleepers.name) {Q : State → Prop} {kc ks : Nat} {s9 : ((Int32 × Int32 × Int32) ⊕ (Int32))} {g1 : AH} {a0 : Nat} {a1 : Int32} {a3 : Int32} {s0 : Int32} (hc : ∀ s1, s9 = .inl s1 → WW M G 4 Q kc ks g1 6 [(0, .ref a0), (1, .int s1.1), (2, .int s1.2.1), (3, .int s1.2.2)] []) (hx : ∀ t, s9 = .inr t → WW M G 4 Q kc ks g1 43 [(1, .int t)] []) {g : AH} (E : x3_longestRowOfSleepers_j30_6 a0 a1 a3 s0 g = some (s9, g1)) : WW M G 4 Q kc ks g 30 [(0, .ref a0), (1, .int a1), (3, .int a3)] [.int s0] := by
  unfold x3_longestRowOfSleepers_j30_6 at E
  refine r_istore_n X 2 (L1 := [(2, .int s0), (0, .ref a0), (1, .int a1), (3, .int a3)]) dX3_longestRowOfSleepers_30 rfl (by decide) rfl ?_
  refine r_iload_n X 1 dX3_longestRowOfSleepers_31 rfl rfl ?_
  refine r_iload_n X 2 dX3_longestRowOfSleepers_32 rfl rfl ?_
  refine r_max X dX3_longestRowOfSleepers_33 m_X3_134m (by decide) (Nat.le_of_ble_eq_true rfl) ?_
  refine r_istore_n X 1 (L1 := [(1, .int (if a1 < s0 then s0 else a1)), (2, .int s0), (0, .ref a0), (3, .int a3)]) dX3_longestRowOfSleepers_36 rfl (by decide) rfl ?_
  refine r_iinc X (v := (a3 + 1)) (L1 := [(3, .int (a3 + 1)), (1, .int (if a1 < s0 then s0 else a1)), (2, .int s0), (0, .ref a0)]) dX3_longestRowOfSleepers_37 rfl rfl (by decide) rfl ?_
  refine r_goto X 6 dX3_longestRowOfSleepers_40 (by decide) ?_
  cases E
  exact r_pick (by rfl : lpick [(3, .int (a3 + 1)), (1, .int (if a1 < s0 then s0 else a1)), (2, .int s0), (0, .ref a0)] [3, 1, 2, 0] = _) (hc _ rfl)
set_option maxHeartbeats 4000000 in
set_option maxRecDepth 100000 in
theorem t_x3_longestRowOfSleepers_l6 {l : Launch} {G : GG} {M : MC} (X : CX M G cX3_longestRowOfSleepers 4 RX3 ⟨3, 0, 0, 150⟩) (hl0 : M.2.1 = l) (hr : (mM M).sig.returnType = (some .int)) (hnm : (mM M).name = yX3_longestRowOfSleepers.name) {Q : State → Prop} {kc ks : Nat} {s9 : ((Int32 × Int32 × Int32) ⊕ (Int32))} {g1 : AH} {a0 : Nat} {s0 : Int32 × Int32 × Int32} (hc : ∀ s1, s9 = .inl s1 → WW M G 4 Q kc ks g1 6 [(0, .ref a0), (1, .int s1.1), (2, .int s1.2.1), (3, .int s1.2.2)] []) (hx : ∀ t, s9 = .inr t → WW M G 4 Q kc ks g1 43 [(1, .int t)] []) {g : AH} (E : x3_longestRowOfSleepers_l6 a0 s0 g = some (s9, g1)) : WW M G 4 Q kc ks g 6 [(0, .ref a0), (1, .int s0.1), (2, .int s0.2.1), (3, .int s0.2.2)] [] := by
  unfold x3_longestRowOfSleepers_l6 at E
  refine r_iload_n X 3 dX3_longestRowOfSleepers_6 rfl rfl ?_
  refine r_aload_n X 0 dX3_longestRowOfSleepers_7 rfl rfl ?_
  obtain ⟨x1, e2, E⟩ := gb_some E
  refine r_getI X dX3_longestRowOfSleepers_8 f_X3_69 e2 ?_
  refine r_icmp_ge X 43 dX3_longestRowOfSleepers_11 (by decide) (fun c3 => ?_) (fun c3 => ?_)
  · rw [if_pos c3] at E
    cases E
    exact r_pick (by rfl : lpick [(0, .ref a0), (1, .int s0.1), (2, .int s0.2.1), (3, .int s0.2.2)] [1] = _) (hx _ rfl)
  · rw [if_neg c3] at E
    refine r_aload_n X 0 dX3_longestRowOfSleepers_14 rfl rfl ?_
    refine r_iload_n X 3 dX3_longestRowOfSleepers_15 rfl rfl ?_
    obtain ⟨u7, e8, E⟩ := gb_some E
    obtain ⟨r4, g5, e6, E⟩ := cb_some E
    refine r_callV0 X hl0 (ci := 3) dX3_longestRowOfSleepers_16 y_X3_sleeperIn m_X3_127 rfl rfl e8 (t_x3_sleeperIn (l := l) (G := G) e6) rfl rfl (Nat.le_of_ble_eq_true rfl) (by decide) ?_
    refine r_iconst X (v := (-1)) dX3_longestRowOfSleepers_19 (by decide) ?_
    refine r_icmp_ne X 27 dX3_longestRowOfSleepers_20 (by decide) (fun c9 => ?_) (fun c9 => ?_)
    · rw [if_neg c9] at E
      refine r_iload_n X 2 dX3_longestRowOfSleepers_27 rfl rfl ?_
      refine r_iconst X (v := 1) dX3_longestRowOfSleepers_28 (by decide) ?_
      refine r_iadd X dX3_longestRowOfSleepers_29 ?_
      exact r_pick (by rfl : lpick [(0, .ref a0), (1, .int s0.1), (2, .int s0.2.1), (3, .int s0.2.2)] [0, 1, 3] = _) (t_x3_longestRowOfSleepers_j30_6 X hl0 hr hnm hc hx E)
    · rw [if_pos c9] at E
      refine r_iconst X (v := 0) dX3_longestRowOfSleepers_23 (by decide) ?_
      refine r_goto X 30 dX3_longestRowOfSleepers_24 (by decide) ?_
      exact r_pick (by rfl : lpick [(0, .ref a0), (1, .int s0.1), (2, .int s0.2.1), (3, .int s0.2.2)] [0, 1, 3] = _) (t_x3_longestRowOfSleepers_j30_6 X hl0 hr hnm hc hx E)
set_option maxHeartbeats 4000000 in
theorem t_x3_longestRowOfSleepers_l6_r {l : Launch} {G : GG} {M : MC} (X : CX M G cX3_longestRowOfSleepers 4 RX3 ⟨3, 0, 0, 150⟩) (hl0 : M.2.1 = l) (hr : (mM M).sig.returnType = (some .int)) (hnm : (mM M).name = yX3_longestRowOfSleepers.name) {Q : State → Prop} {kc ks : Nat} {a0 : Nat} : ∀ (n : Nat) (s0 : Int32 × Int32 × Int32) (g : AH) (t : (Int32)) (g1 : AH), loopX (x3_longestRowOfSleepers_l6 a0) n s0 g = some (t, g1) → WW M G 4 Q kc ks g1 43 [(1, .int t)] [] → WW M G 4 Q kc ks g 6 [(0, .ref a0), (1, .int s0.1), (2, .int s0.2.1), (3, .int s0.2.2)] [] :=
  loop_cps (K := fun t g1 => WW M G 4 Q kc ks g1 43 [(1, .int t)] []) (fun _ s0 g => WW M G 4 Q kc ks g 6 [(0, .ref a0), (1, .int s0.1), (2, .int s0.2.1), (3, .int s0.2.2)] []) (fun n s0 g st g1 E hc hx => t_x3_longestRowOfSleepers_l6 X hl0 hr hnm hc hx E)
set_option maxHeartbeats 4000000 in
set_option maxRecDepth 100000 in
theorem t_x3_longestRowOfSleepers_b {l : Launch} {G : GG} {M : MC} (X : CX M G cX3_longestRowOfSleepers 4 RX3 ⟨3, 0, 0, 150⟩) (hl0 : M.2.1 = l) (hr : (mM M).sig.returnType = (some .int)) (hnm : (mM M).name = yX3_longestRowOfSleepers.name) {p : Nat} {g : AH} {r : Int32} {g1 : AH} (E : x3_longestRowOfSleepers p g = some (r, g1)) : WW M G 4 (RQ M G (some (.int r)) g1 0 0) 0 0 g 0 [(0, .ref p)] [] := by
  unfold x3_longestRowOfSleepers at E
  refine r_iconst X (v := 0) dX3_longestRowOfSleepers_0 (by decide) ?_
  refine r_istore_n X 1 (L1 := [(1, .int 0), (0, .ref p)]) dX3_longestRowOfSleepers_1 rfl (by decide) rfl ?_
  refine r_iconst X (v := 0) dX3_longestRowOfSleepers_2 (by decide) ?_
  refine r_istore_n X 2 (L1 := [(2, .int 0), (1, .int 0), (0, .ref p)]) dX3_longestRowOfSleepers_3 rfl (by decide) rfl ?_
  refine r_iconst X (v := 0) dX3_longestRowOfSleepers_4 (by decide) ?_
  refine r_istore_n X 3 (L1 := [(3, .int 0), (2, .int 0), (1, .int 0), (0, .ref p)]) dX3_longestRowOfSleepers_5 rfl (by decide) rfl ?_
  obtain ⟨t1, g2, e3, E⟩ := cb_some E
  refine r_pick (by rfl : lpick [(3, .int 0), (2, .int 0), (1, .int 0), (0, .ref p)] [3, 2, 1, 0] = _) (t_x3_longestRowOfSleepers_l6_r X hl0 hr hnm _ _ _ _ _ e3 ?_)
  refine r_iload_n X 1 dX3_longestRowOfSleepers_43 rfl rfl ?_
  cases E
  exact r_iret X hr dX3_longestRowOfSleepers_44 (by decide) (by decide)
theorem t_x3_longestRowOfSleepers {l : Launch} {G : GG} {p : Nat} {g : AH} {r : Int32} {g1 : AH} (E : x3_longestRowOfSleepers p g = some (r, g1)) : Ct l G yX3_longestRowOfSleepers cX3_longestRowOfSleepers 4 (some .int) ⟨3, 0, 0, 150⟩ [.ref p] g (some (.int r)) g1 :=
  ct_of (L0 := [(0, .ref p)]) y_X3_longestRowOfSleepers rfl (Nat.le_of_ble_eq_true rfl) fun M hl0 X hr hnm => t_x3_longestRowOfSleepers_b X hl0 hr hnm E
set_option maxHeartbeats 4000000 in
set_option maxRecDepth 100000 in
theorem t_x8_longestRow_b {l : Launch} {G : GG} {M : MC} (X : CX M G cX8_longestRow 1 RX8 ⟨4, 0, 0, 173⟩) (hl0 : M.2.1 = l) (hr : (mM M).sig.returnType = (some .int)) (hnm : (mM M).name = yX8_longestRow.name) {p : Nat} {g : AH} {r : Int32} {g1 : AH} (E : x8_longestRow p g = some (r, g1)) : WW M G 1 (RQ M G (some (.int r)) g1 0 0) 0 0 g 0 [(0, .ref p)] [] := by
  unfold x8_longestRow at E
  refine r_aload_n X 0 dX8_longestRow_0 rfl rfl ?_
  obtain ⟨x1, e2, E⟩ := gb_some E
  refine r_getR X dX8_longestRow_1 f_X8_10 e2 ?_
  obtain ⟨u6, e7, E⟩ := gb_some E
  obtain ⟨r3, g4, e5, E⟩ := cb_some E
  refine r_callV0 X hl0 (ci := 3) dX8_longestRow_4 y_X3_longestRowOfSleepers m_X8_178 rfl rfl e7 (t_x3_longestRowOfSleepers (l := l) (G := G) e5) rfl rfl (Nat.le_of_ble_eq_true rfl) (by decide) ?_
  cases E
  exact r_iret X hr dX8_longestRow_7 (by decide) (by decide)
theorem t_x8_longestRow {l : Launch} {G : GG} {p : Nat} {g : AH} {r : Int32} {g1 : AH} (E : x8_longestRow p g = some (r, g1)) : Ct l G yX8_longestRow cX8_longestRow 1 (some .int) ⟨4, 0, 0, 173⟩ [.ref p] g (some (.int r)) g1 :=
  ct_of (L0 := [(0, .ref p)]) y_X8_longestRow rfl (Nat.le_of_ble_eq_true rfl) fun M hl0 X hr hnm => t_x8_longestRow_b X hl0 hr hnm E
set_option maxHeartbeats 4000000 in
set_option maxRecDepth 100000 in
theorem t_x8_demandHiker_b {l : Launch} {G : GG} {M : MC} (X : CX M G cX8_demandHiker 2 RX8 ⟨7, 1, 6, 200⟩) (hl0 : M.2.1 = l) (hr : (mM M).sig.returnType = none) (hnm : (mM M).name = yX8_demandHiker.name) (hnt : ∀ x ∈ (mC M).exceptionTable.toList, False) (hst : l.stackTraces = false) {p : Nat} {b0 : Int32} {g : AH} {o : (Unit ⊕ String)} {g1 : AH} (E : x8_demandHiker p b0 g = some (o, g1)) : WW M G 2 (RX M G (ovU o) g1 1 6) 0 0 g 0 [(0, .ref p), (1, .int b0)] [] := by
  unfold x8_demandHiker at E
  refine r_aload_n X 0 dX8_demandHiker_0 rfl rfl ?_
  obtain ⟨x1, e2, E⟩ := gb_some E
  refine r_getR X dX8_demandHiker_1 f_X8_10 e2 ?_
  refine r_iload_n X 1 dX8_demandHiker_4 rfl rfl ?_
  obtain ⟨u6, e7, E⟩ := gb_some E
  obtain ⟨r3, g4, e5, E⟩ := cb_some E
  refine r_callV0 X hl0 (ci := 3) dX8_demandHiker_5 y_X3_hasHiker m_X8_196 rfl rfl e7 (t_x3_hasHiker (l := l) (G := G) e5) rfl rfl (Nat.le_of_ble_eq_true rfl) (by decide) ?_
  refine r_if_ne X 21 dX8_demandHiker_8 (by decide) (fun c8 => ?_) (fun c8 => ?_)
  · rw [if_neg c8] at E
    cases E
    exact r_ret (r_vret X hr dX8_demandHiker_21 (by decide) (by decide))
  · rw [if_pos c8] at E
    cases E
    exact r_throw X hl0 hst hnt th_X8_195 k_X8_191 (List.mem_of_getElem? (i := 4) rfl) dX8_demandHiker_11 dX8_demandHiker_14 dX8_demandHiker_15 dX8_demandHiker_17 dX8_demandHiker_20 ⟨by decide, Nat.le_of_ble_eq_true rfl⟩ (by decide) (by decide)
theorem t_x8_demandHiker {l : Launch} (hst : l.stackTraces = false) {G : GG} {p : Nat} {b0 : Int32} {g : AH} {o : (Unit ⊕ String)} {g1 : AH} (E : x8_demandHiker p b0 g = some (o, g1)) : CtX l G yX8_demandHiker cX8_demandHiker 2 none ⟨7, 1, 6, 200⟩ [.ref p, .int b0] g (ovU o) g1 :=
  ctX_of (L0 := [(0, .ref p), (1, .int b0)]) y_X8_demandHiker rfl (Nat.le_of_ble_eq_true rfl) fun M hl0 X hr hnm hnt => t_x8_demandHiker_b X hl0 hr hnm hnt hst E
set_option maxHeartbeats 4000000 in
set_option maxRecDepth 100000 in
theorem t_x5_isFreeFor_j16 {l : Launch} {G : GG} {M : MC} (X : CX M G cX5_isFreeFor 4 RX5 ⟨3, 0, 0, 102⟩) (hl0 : M.2.1 = l) (hr : (mM M).sig.returnType = (some .boolean)) (hnm : (mM M).name = yX5_isFreeFor.name)  {g : AH} {r : Int32} {g1 : AH} (E : x5_isFreeFor_j16  g = some (r, g1)) : WW M G 4 (RQ M G (some (.int r)) g1 0 0) 0 0 g 16 [] [] := by
  unfold x5_isFreeFor_j16 at E
  refine r_iconst X (v := 1) dX5_isFreeFor_16 (by decide) ?_
  refine r_goto X 21 dX5_isFreeFor_17 (by decide) ?_
  cases E
  exact r_zret X hr (Or.inr rfl) dX5_isFreeFor_21 (by decide) (by decide)
set_option maxHeartbeats 4000000 in
set_option maxRecDepth 100000 in
theorem t_x5_isFreeFor_b {l : Launch} {G : GG} {M : MC} (X : CX M G cX5_isFreeFor 4 RX5 ⟨3, 0, 0, 102⟩) (hl0 : M.2.1 = l) (hr : (mM M).sig.returnType = (some .boolean)) (hnm : (mM M).name = yX5_isFreeFor.name) {b0 : Nat} {b1 : Int32} {b2 : Int32} {g : AH} {r : Int32} {g1 : AH} (E : x5_isFreeFor b0 b1 b2 g = some (r, g1)) : WW M G 4 (RQ M G (some (.int r)) g1 0 0) 0 0 g 0 [(0, .ref b0), (1, .int b1), (2, .int b2)] [] := by
  unfold x5_isFreeFor at E
  refine r_aload_n X 0 dX5_isFreeFor_0 rfl rfl ?_
  refine r_iload_n X 2 dX5_isFreeFor_1 rfl rfl ?_
  obtain ⟨u4, e5, E⟩ := gb_some E
  obtain ⟨r1, g2, e3, E⟩ := cb_some E
  refine r_callV0 X hl0 (ci := 3) dX5_isFreeFor_2 y_X3_sleeperIn m_X5_50 rfl rfl e5 (t_x3_sleeperIn (l := l) (G := G) e3) rfl rfl (Nat.le_of_ble_eq_true rfl) (by decide) ?_
  refine r_istore_n X 3 (L1 := [(3, .int r1), (0, .ref b0), (1, .int b1), (2, .int b2)]) dX5_isFreeFor_5 rfl (by decide) rfl ?_
  refine r_iload_n X 3 dX5_isFreeFor_6 rfl rfl ?_
  refine r_iconst X (v := (-1)) dX5_isFreeFor_7 (by decide) ?_
  refine r_icmp_eq X 16 dX5_isFreeFor_8 (by decide) (fun c6 => ?_) (fun c6 => ?_)
  · rw [if_pos c6] at E
    exact r_pick (by rfl : lpick [(3, .int r1), (0, .ref b0), (1, .int b1), (2, .int b2)] [] = _) (t_x5_isFreeFor_j16 X hl0 hr hnm E)
  · rw [if_neg c6] at E
    refine r_iload_n X 3 dX5_isFreeFor_11 rfl rfl ?_
    refine r_iload_n X 1 dX5_isFreeFor_12 rfl rfl ?_
    refine r_icmp_ne X 20 dX5_isFreeFor_13 (by decide) (fun c7 => ?_) (fun c7 => ?_)
    · rw [if_neg c7] at E
      refine r_iconst X (v := 0) dX5_isFreeFor_20 (by decide) ?_
      cases E
      exact r_zret X hr (Or.inl rfl) dX5_isFreeFor_21 (by decide) (by decide)
    · rw [if_pos c7] at E
      exact r_pick (by rfl : lpick [(3, .int r1), (0, .ref b0), (1, .int b1), (2, .int b2)] [] = _) (t_x5_isFreeFor_j16 X hl0 hr hnm E)
theorem t_x5_isFreeFor {l : Launch} {G : GG} {b0 : Nat} {b1 : Int32} {b2 : Int32} {g : AH} {r : Int32} {g1 : AH} (E : x5_isFreeFor b0 b1 b2 g = some (r, g1)) : Ct l G yX5_isFreeFor cX5_isFreeFor 4 (some .boolean) ⟨3, 0, 0, 102⟩ [.ref b0, .int b1, .int b2] g (some (.int r)) g1 :=
  ct_of (L0 := [(0, .ref b0), (1, .int b1), (2, .int b2)]) y_X5_isFreeFor rfl (Nat.le_of_ble_eq_true rfl) fun M hl0 X hr hnm => t_x5_isFreeFor_b X hl0 hr hnm E
set_option maxHeartbeats 4000000 in
set_option maxRecDepth 100000 in
theorem t_x5_placeForMostSleep_j87_33 {l : Launch} {G : GG} {M : MC} (X : CX M G cX5_placeForMostSleep 7 RX5 ⟨5, 0, 0, 193⟩) (hl0 : M.2.1 = l) (hr : (mM M).sig.returnType = (some .int)) (hnm : (mM M).name = yX5_placeForMostSleep.name) {Q : State → Prop} {kc ks : Nat} {s9 : ((Int32 × Int32 × Int32) ⊕ (Int32))} {g1 : AH} {a0 : Nat} {a1 : Nat} {a2 : Int32} {a3 : Int32} {a4 : Int32} {a5 : Int32} (hc : ∀ s1, s9 = .inl s1 → WW M G 7 Q kc ks g1 33 [(0, .ref a0), (1, .ref a1), (2, .int a2), (3, .int s1.1), (4, .int s1.2.1), (5, .int s1.2.2)] []) (hx : ∀ t, s9 = .inr t → WW M G 7 Q kc ks g1 93 [(3, .int t)] []) {g : AH} (E : x5_placeForMostSleep_j87_33 a0 a1 a2 a3 a4 a5 g = some (s9, g1)) : WW M G 7 Q kc ks g 87 [(0, .ref a0), (1, .ref a1), (2, .int a2), (3, .int a3), (4, .int a4), (5, .int a5)] [] := by
  unfold x5_placeForMostSleep_j87_33 at E
  refine r_iinc X (v := (a5 + 1)) (L1 := [(5, .int (a5 + 1)), (0, .ref a0), (1, .ref a1), (2, .int a2), (3, .int a3), (4, .int a4)]) dX5_placeForMostSleep_87 rfl rfl (by decide) rfl ?_
  refine r_goto X 33 dX5_placeForMostSleep_90 (by decide) ?_
  cases E
  exact r_pick (by rfl : lpick [(5, .int (a5 + 1)), (0, .ref a0), (1, .ref a1), (2, .int a2), (3, .int a3), (4, .int a4)] [1, 2, 3, 4, 5, 0] = _) (hc _ rfl)
set_option maxHeartbeats 4000000 in
set_option maxRecDepth 100000 in
theorem t_x5_placeForMostSleep_l33 {l : Launch} {G : GG} {M : MC} (X : CX M G cX5_placeForMostSleep 7 RX5 ⟨5, 0, 0, 193⟩) (hl0 : M.2.1 = l) (hr : (mM M).sig.returnType = (some .int)) (hnm : (mM M).name = yX5_placeForMostSleep.name) {Q : State → Prop} {kc ks : Nat} {s9 : ((Int32 × Int32 × Int32) ⊕ (Int32))} {g1 : AH} {a0 : Nat} {a1 : Nat} {a2 : Int32} {s0 : Int32 × Int32 × Int32} (hc : ∀ s1, s9 = .inl s1 → WW M G 7 Q kc ks g1 33 [(0, .ref a0), (1, .ref a1), (2, .int a2), (3, .int s1.1), (4, .int s1.2.1), (5, .int s1.2.2)] []) (hx : ∀ t, s9 = .inr t → WW M G 7 Q kc ks g1 93 [(3, .int t)] []) {g : AH} (E : x5_placeForMostSleep_l33 a0 a1 a2 s0 g = some (s9, g1)) : WW M G 7 Q kc ks g 33 [(0, .ref a0), (1, .ref a1), (2, .int a2), (3, .int s0.1), (4, .int s0.2.1), (5, .int s0.2.2)] [] := by
  unfold x5_placeForMostSleep_l33 at E
  refine r_iload X dX5_placeForMostSleep_33 rfl ?_
  refine r_aload_n X 1 dX5_placeForMostSleep_35 rfl rfl ?_
  obtain ⟨x1, e2, E⟩ := gb_some E
  refine r_getI X dX5_placeForMostSleep_36 f_X5_30 e2 ?_
  refine r_icmp_ge X 93 dX5_placeForMostSleep_39 (by decide) (fun c3 => ?_) (fun c3 => ?_)
  · rw [if_pos c3] at E
    cases E
    exact r_pick (by rfl : lpick [(0, .ref a0), (1, .ref a1), (2, .int a2), (3, .int s0.1), (4, .int s0.2.1), (5, .int s0.2.2)] [3] = _) (hx _ rfl)
  · rw [if_neg c3] at E
    refine r_aload_n X 1 dX5_placeForMostSleep_42 rfl rfl ?_
    refine r_iload_n X 2 dX5_placeForMostSleep_43 rfl rfl ?_
    refine r_iload X dX5_placeForMostSleep_44 rfl ?_
    obtain ⟨r4, g5, e6, E⟩ := cb_some E
    refine r_callS0 X hl0 dX5_placeForMostSleep_46 y_X5_isFreeFor m_X5_34 (t_x5_isFreeFor (l := l) (G := G) e6) rfl rfl (Nat.le_of_ble_eq_true rfl) (by decide) ?_
    refine r_if_eq X 87 dX5_placeForMostSleep_49 (by decide) (fun c7 => ?_) (fun c7 => ?_)
    · rw [if_pos c7] at E
      exact r_pick (by rfl : lpick [(0, .ref a0), (1, .ref a1), (2, .int a2), (3, .int s0.1), (4, .int s0.2.1), (5, .int s0.2.2)] [0, 1, 2, 3, 4, 5] = _) (t_x5_placeForMostSleep_j87_33 X hl0 hr hnm hc hx E)
    · rw [if_neg c7] at E
      refine r_aload_n X 0 dX5_placeForMostSleep_52 rfl rfl ?_
      obtain ⟨x8, e9, E⟩ := gb_some E
      refine r_getR X dX5_placeForMostSleep_53 f_X5_12 e9 ?_
      refine r_iload_n X 2 dX5_placeForMostSleep_56 rfl rfl ?_
      refine r_iload X dX5_placeForMostSleep_57 rfl ?_
      obtain ⟨u13, e14, E⟩ := gb_some E
      obtain ⟨r10, g11, e12, E⟩ := cb_some E
      refine r_callV0 X hl0 (ci := 3) dX5_placeForMostSleep_59 y_X3_moveTo m_X5_22 rfl rfl e14 (t_x3_moveTo (l := l) (G := G) e12) rfl rfl (Nat.le_of_ble_eq_true rfl) (by decide) ?_
      refine r_pop X dX5_placeForMostSleep_62 rfl ?_
      refine r_aload_n X 0 dX5_placeForMostSleep_63 rfl rfl ?_
      obtain ⟨x15, e16, E⟩ := gb_some E
      refine r_getR X dX5_placeForMostSleep_64 f_X5_12 e16 ?_
      refine r_iconst X (v := 2) dX5_placeForMostSleep_67 (by decide) ?_
      obtain ⟨u20, e21, E⟩ := gb_some E
      obtain ⟨r17, g18, e19, E⟩ := cb_some E
      refine r_callV0 X hl0 (ci := 3) dX5_placeForMostSleep_68 y_X3_countOf m_X5_26 rfl rfl e21 (t_x3_countOf (l := l) (G := G) e19) rfl rfl (Nat.le_of_ble_eq_true rfl) (by decide) ?_
      refine r_istore X (L1 := [(6, .int r17), (0, .ref a0), (1, .ref a1), (2, .int a2), (3, .int s0.1), (4, .int s0.2.1), (5, .int s0.2.2)]) dX5_placeForMostSleep_71 (by decide) rfl ?_
      refine r_iload X dX5_placeForMostSleep_73 rfl ?_
      refine r_iload X dX5_placeForMostSleep_75 rfl ?_
      refine r_icmp_le X 87 dX5_placeForMostSleep_77 (by decide) (fun c22 => ?_) (fun c22 => ?_)
      · rw [if_pos c22] at E
        exact r_pick (by rfl : lpick [(6, .int r17), (0, .ref a0), (1, .ref a1), (2, .int a2), (3, .int s0.1), (4, .int s0.2.1), (5, .int s0.2.2)] [1, 2, 3, 4, 5, 6] = _) (t_x5_placeForMostSleep_j87_33 X hl0 hr hnm hc hx E)
      · rw [if_neg c22] at E
        refine r_iload X dX5_placeForMostSleep_80 rfl ?_
        refine r_istore X (L1 := [(4, .int r17), (6, .int r17), (0, .ref a0), (1, .ref a1), (2, .int a2), (3, .int s0.1), (5, .int s0.2.2)]) dX5_placeForMostSleep_82 (by decide) rfl ?_
        refine r_iload X dX5_placeForMostSleep_84 rfl ?_
        refine r_istore_n X 3 (L1 := [(3, .int s0.2.2), (4, .int r17), (6, .int r17), (0, .ref a0), (1, .ref a1), (2, .int a2), (5, .int s0.2.2)]) dX5_placeForMostSleep_86 rfl (by decide) rfl ?_
        exact r_pick (by rfl : lpick [(3, .int s0.2.2), (4, .int r17), (6, .int r17), (0, .ref a0), (1, .ref a1), (2, .int a2), (5, .int s0.2.2)] [3, 4, 5, 0, 1, 6] = _) (t_x5_placeForMostSleep_j87_33 X hl0 hr hnm hc hx E)
set_option maxHeartbeats 4000000 in
theorem t_x5_placeForMostSleep_l33_r {l : Launch} {G : GG} {M : MC} (X : CX M G cX5_placeForMostSleep 7 RX5 ⟨5, 0, 0, 193⟩) (hl0 : M.2.1 = l) (hr : (mM M).sig.returnType = (some .int)) (hnm : (mM M).name = yX5_placeForMostSleep.name) {Q : State → Prop} {kc ks : Nat} {a0 : Nat} {a1 : Nat} {a2 : Int32} : ∀ (n : Nat) (s0 : Int32 × Int32 × Int32) (g : AH) (t : (Int32)) (g1 : AH), loopX (x5_placeForMostSleep_l33 a0 a1 a2) n s0 g = some (t, g1) → WW M G 7 Q kc ks g1 93 [(3, .int t)] [] → WW M G 7 Q kc ks g 33 [(0, .ref a0), (1, .ref a1), (2, .int a2), (3, .int s0.1), (4, .int s0.2.1), (5, .int s0.2.2)] [] :=
  loop_cps (K := fun t g1 => WW M G 7 Q kc ks g1 93 [(3, .int t)] []) (fun _ s0 g => WW M G 7 Q kc ks g 33 [(0, .ref a0), (1, .ref a1), (2, .int a2), (3, .int s0.1), (4, .int s0.2.1), (5, .int s0.2.2)] []) (fun n s0 g st g1 E hc hx => t_x5_placeForMostSleep_l33 X hl0 hr hnm hc hx E)
set_option maxHeartbeats 4000000 in
set_option maxRecDepth 100000 in
theorem t_x5_placeForMostSleep_b {l : Launch} {G : GG} {M : MC} (X : CX M G cX5_placeForMostSleep 7 RX5 ⟨5, 0, 0, 193⟩) (hl0 : M.2.1 = l) (hr : (mM M).sig.returnType = (some .int)) (hnm : (mM M).name = yX5_placeForMostSleep.name) {p : Nat} {b0 : Nat} {b1 : Int32} {g : AH} {r : Int32} {g1 : AH} (E : x5_placeForMostSleep p b0 b1 g = some (r, g1)) : WW M G 7 (RQ M G (some (.int r)) g1 0 0) 0 0 g 0 [(0, .ref p), (1, .ref b0), (2, .int b1)] [] := by
  unfold x5_placeForMostSleep at E
  refine r_aload_n X 0 dX5_placeForMostSleep_0 rfl rfl ?_
  obtain ⟨x1, e2, E⟩ := gb_some E
  refine r_getR X dX5_placeForMostSleep_1 f_X5_12 e2 ?_
  refine r_aload_n X 1 dX5_placeForMostSleep_4 rfl rfl ?_
  obtain ⟨u6, e7, E⟩ := gb_some E
  obtain ⟨r3, g4, e5, E⟩ := cb_some E
  refine r_callV0 X hl0 (ci := 3) dX5_placeForMostSleep_5 y_X3_copyFrom m_X5_18 rfl rfl e7 (t_x3_copyFrom (l := l) (G := G) e5) rfl rfl (Nat.le_of_ble_eq_true rfl) (by decide) ?_
  refine r_aload_n X 0 dX5_placeForMostSleep_8 rfl rfl ?_
  obtain ⟨x8, e9, E⟩ := gb_some E
  refine r_getR X dX5_placeForMostSleep_9 f_X5_12 e9 ?_
  refine r_iload_n X 2 dX5_placeForMostSleep_12 rfl rfl ?_
  refine r_iconst X (v := (-1)) dX5_placeForMostSleep_13 (by decide) ?_
  obtain ⟨u13, e14, E⟩ := gb_some E
  obtain ⟨r10, g11, e12, E⟩ := cb_some E
  refine r_callV0 X hl0 (ci := 3) dX5_placeForMostSleep_14 y_X3_moveTo m_X5_22 rfl rfl e14 (t_x3_moveTo (l := l) (G := G) e12) rfl rfl (Nat.le_of_ble_eq_true rfl) (by decide) ?_
  refine r_pop X dX5_placeForMostSleep_17 rfl ?_
  refine r_iconst X (v := (-1)) dX5_placeForMostSleep_18 (by decide) ?_
  refine r_istore_n X 3 (L1 := [(3, .int (-1)), (0, .ref p), (1, .ref b0), (2, .int b1)]) dX5_placeForMostSleep_19 rfl (by decide) rfl ?_
  refine r_aload_n X 0 dX5_placeForMostSleep_20 rfl rfl ?_
  obtain ⟨x15, e16, E⟩ := gb_some E
  refine r_getR X dX5_placeForMostSleep_21 f_X5_12 e16 ?_
  refine r_iconst X (v := 2) dX5_placeForMostSleep_24 (by decide) ?_
  obtain ⟨u20, e21, E⟩ := gb_some E
  obtain ⟨r17, g18, e19, E⟩ := cb_some E
  refine r_callV0 X hl0 (ci := 3) dX5_placeForMostSleep_25 y_X3_countOf m_X5_26 rfl rfl e21 (t_x3_countOf (l := l) (G := G) e19) rfl rfl (Nat.le_of_ble_eq_true rfl) (by decide) ?_
  refine r_istore X (L1 := [(4, .int r17), (3, .int (-1)), (0, .ref p), (1, .ref b0), (2, .int b1)]) dX5_placeForMostSleep_28 (by decide) rfl ?_
  refine r_iconst X (v := 0) dX5_placeForMostSleep_30 (by decide) ?_
  refine r_istore X (L1 := [(5, .int 0), (4, .int r17), (3, .int (-1)), (0, .ref p), (1, .ref b0), (2, .int b1)]) dX5_placeForMostSleep_31 (by decide) rfl ?_
  obtain ⟨t22, g23, e24, E⟩ := cb_some E
  refine r_pick (by rfl : lpick [(5, .int 0), (4, .int r17), (3, .int (-1)), (0, .ref p), (1, .ref b0), (2, .int b1)] [3, 4, 5, 2, 1, 0] = _) (t_x5_placeForMostSleep_l33_r X hl0 hr hnm _ _ _ _ _ e24 ?_)
  refine r_iload_n X 3 dX5_placeForMostSleep_93 rfl rfl ?_
  cases E
  exact r_iret X hr dX5_placeForMostSleep_94 (by decide) (by decide)
theorem t_x5_placeForMostSleep {l : Launch} {G : GG} {p : Nat} {b0 : Nat} {b1 : Int32} {g : AH} {r : Int32} {g1 : AH} (E : x5_placeForMostSleep p b0 b1 g = some (r, g1)) : Ct l G yX5_placeForMostSleep cX5_placeForMostSleep 7 (some .int) ⟨5, 0, 0, 193⟩ [.ref p, .ref b0, .int b1] g (some (.int r)) g1 :=
  ct_of (L0 := [(0, .ref p), (1, .ref b0), (2, .int b1)]) y_X5_placeForMostSleep rfl (Nat.le_of_ble_eq_true rfl) fun M hl0 X hr hnm => t_x5_placeForMostSleep_b X hl0 hr hnm E
