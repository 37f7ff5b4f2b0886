/-! functions and contracts, by program: bestPlaceFor, userOf, pileRankOf, blanketAtRank, blanketOnPile, blanketsOnPile, pileSize, lack, thinnestFitting, fittingBlanket, hikerCount, bunkOf, blanketOf, warmth, activity, hoursOf, coinsOf, debtOf, ranksBefore, rankOfHiker, hikerOfRank, hikerAtRank, loudestDisturber, worstSnorer, hikersWithout, coldHikers, hikerMissingMost, coldestHiker, hikersLacking, blanketsOfThickness, coldIfSharedBest, fewestCold, savedByExchange, exchangeForFewestCold, bestExchange, bunkForMostWarmth, warmestBunk, hutCoins, burnedLogs, sumOfDebts, totalDebt, thingsUsedTwice, auditDifference, sumOfWarmths, meanWarmth, sumOfHours, sleepShare, demandForeseeable, passTimeUnwatched, temperatureIn, temperatureAfter, shiversToDawn, shiversUntilDawn, paymentNextDawn, paymentAtDawn, debtIn, debtAfter, dawnsToDebt, dawnsUntilDebt, hoursToNoLogs, hoursUntilNoLogs, hoursToDawnOf, rateWithoutShivers, rateNeeded, rateForMostSleep, bestRate, refuse, act, takeBlanket, returnBlanket, swapBlankets, lieDown, getUp, setRate -/
def x8_bestPlaceFor (p : Nat) (b0 : Int32) (g : AH) : Option ((Int32 ⊕ String) × AH) :=
  gb (isO 8 g p) fun _ => cb (x8_demandHiker p b0 g) fun r1 g2 => Sum.elim (fun v6 =>
  gb (getR 8 g2 p 2) fun x8 => gb (getR 8 g2 p 0) fun x10 => gb (isO 5 g2 x8) fun _ => cb (x5_placeForMostSleep x8 x10 b0 g2) fun r12 g13 => some (.inl r12, g13)) (fun w7 => some (.inr w7, g2)) r1
def x8_userOf (p : Nat) (b0 : Int32) (g : AH) : Option ((Int32 ⊕ String) × AH) :=
  gb (getR 8 g p 0) fun x1 => gb (isO 3 g x1) fun _ => cb (x3_hasBlanket x1 b0 g) fun r3 g4 => if r3 = 0 then
  some (.inr "java/lang/IndexOutOfBoundsException", hcut g4)
  else
  gb (getR 8 g4 p 0) fun x9 => gb (isO 3 g4 x9) fun _ => cb (x3_userOfBlanket x9 b0 g4) fun r11 g12 => some (.inl r11, g12)
def x3_pileRankOf_j71_4 (a0 : Nat) (a1 : Int32) (a2 : Int32) (a3 : Int32) (g : AH) : Option (((Int32 × Int32) ⊕ (Int32)) × AH) :=
  some (.inl (a2, (a3 + 1)), g)
def x3_pileRankOf_j52_4 (a0 : Nat) (a1 : Int32) (a2 : Int32) (a3 : Int32) (s0 : Int32) (g : AH) : Option (((Int32 × Int32) ⊕ (Int32)) × AH) :=
  if s0 = 0 then
  x3_pileRankOf_j71_4 a0 a1 a2 a3 g
  else
  gb (isO 3 g a0) fun _ => cb (x3_userOfBlanket a0 a3 g) fun r2 g3 => if r2 = (-1) then
  x3_pileRankOf_j71_4 a0 a1 (a2 + 1) a3 g3
  else
  x3_pileRankOf_j71_4 a0 a1 a2 a3 g3
def x3_pileRankOf_j47_4 (a0 : Nat) (a1 : Int32) (a2 : Int32) (a3 : Int32) (g : AH) : Option (((Int32 × Int32) ⊕ (Int32)) × AH) :=
  x3_pileRankOf_j52_4 a0 a1 a2 a3 1 g
def x3_pileRankOf_j51_4 (a0 : Nat) (a1 : Int32) (a2 : Int32) (a3 : Int32) (g : AH) : Option (((Int32 × Int32) ⊕ (Int32)) × AH) :=
  x3_pileRankOf_j52_4 a0 a1 a2 a3 0 g
def x3_pileRankOf_l4 (a0 : Nat) (a1 : Int32) (s0 : Int32 × Int32) (g : AH) : Option (((Int32 × Int32) ⊕ (Int32)) × AH) :=
  gb (getI 3 g a0 10) fun x1 => if x1 ≤ s0.2 then
  some (.inr s0.1, g)
  else
  gb (getR 3 g a0 14) fun x4 => gb (aldI 0 g x4 s0.2) fun x6 => gb (getR 3 g a0 14) fun x8 => gb (aldI 0 g x8 a1) fun x10 => if x10 < x6 then
  x3_pileRankOf_j47_4 a0 a1 s0.1 s0.2 g
  else
  gb (getR 3 g a0 14) fun x13 => gb (aldI 0 g x13 s0.2) fun x15 => gb (getR 3 g a0 14) fun x17 => gb (aldI 0 g x17 a1) fun x19 => if x15 = x19 then
  if a1 ≤ s0.2 then
  x3_pileRankOf_j51_4 a0 a1 s0.1 s0.2 g
  else
  x3_pileRankOf_j47_4 a0 a1 s0.1 s0.2 g
  else
  x3_pileRankOf_j51_4 a0 a1 s0.1 s0.2 g
def x3_pileRankOf (p : Nat) (b0 : Int32) (g : AH) : Option (Int32 × AH) :=
  cb (loopX (x3_pileRankOf_l4 p b0) 1000 (0, 0) g) fun t1 g2 =>
  some (t1, g2)
def x3_blanketAtRank_j30_2 (a0 : Nat) (a1 : Int32) (a2 : Int32) (g : AH) : Option (((Int32) ⊕ ((Unit) ⊕ Int32)) × AH) :=
  some (.inl (a2 + 1), g)
def x3_blanketAtRank_l2 (a0 : Nat) (a1 : Int32) (s0 : Int32) (g : AH) : Option (((Int32) ⊕ ((Unit) ⊕ Int32)) × AH) :=
  gb (getI 3 g a0 10) fun x1 => if x1 ≤ s0 then
  some (.inr (.inl ()), g)
  else
  gb (isO 3 g a0) fun _ => cb (x3_userOfBlanket a0 s0 g) fun r4 g5 => if r4 = (-1) then
  gb (isO 3 g5 a0) fun _ => cb (x3_pileRankOf a0 s0 g5) fun r10 g11 => if r10 = a1 then
  some (.inr (.inr s0), g11)
  else
  x3_blanketAtRank_j30_2 a0 a1 s0 g11
  else
  x3_blanketAtRank_j30_2 a0 a1 s0 g5
def x3_blanketAtRank (p : Nat) (b0 : Int32) (g : AH) : Option (Int32 × AH) :=
  cb (loopX (x3_blanketAtRank_l2 p b0) 1000 0 g) fun t1 g2 => Sum.elim (fun t4 =>
  some ((-1), g2)) (fun t5 => some (t5, g2)) t1
def x8_blanketOnPile (p : Nat) (b0 : Int32) (g : AH) : Option ((Int32 ⊕ String) × AH) :=
  gb (getR 8 g p 0) fun x1 => gb (isO 3 g x1) fun _ => cb (x3_blanketAtRank x1 b0 g) fun r3 g4 => if r3 = (-1) then
  some (.inr "java/util/NoSuchElementException", hcut g4)
  else
  some (.inl r3, g4)
def x3_blanketsOnPile (p : Nat) (g : AH) : Option (Int32 × AH) :=
  gb (getI 3 g p 10) fun x1 => gb (getI 3 g p 12) fun x3 => gb (isO 3 g p) fun _ => cb (x3_hikersWithoutBlanket p g) fun r5 g6 => some ((x1 - (x3 - r5)), g6)
def x8_pileSize (p : Nat) (g : AH) : Option (Int32 × AH) :=
  gb (getR 8 g p 0) fun x1 => gb (isO 3 g x1) fun _ => cb (x3_blanketsOnPile x1 g) fun r3 g4 => some (r3, g4)
def x1_lack (p : Nat) (g : AH) : Option (Int32 × AH) :=
  gb (getI 1 g p 0) fun x1 => gb (getI 1 g p 7) fun x3 => gb (getI 1 g p 6) fun x5 => some ((x1 - (x3 - x5)), g)
def x3_thinnestFitting_j69_15 (a0 : Nat) (a2 : Int32) (a3 : Int32) (a4 : Int32) (g : AH) : Option (((Int32 × Int32) ⊕ (Int32)) × AH) :=
  some (.inl (a3, (a4 + 1)), g)
def x3_thinnestFitting_j66_15 (a0 : Nat) (a2 : Int32) (a4 : Int32) (g : AH) : Option (((Int32 × Int32) ⊕ (Int32)) × AH) :=
  x3_thinnestFitting_j69_15 a0 a2 a4 a4 g
def x3_thinnestFitting_l15 (a0 : Nat) (a2 : Int32) (s0 : Int32 × Int32) (g : AH) : Option (((Int32 × Int32) ⊕ (Int32)) × AH) :=
  gb (getI 3 g a0 10) fun x1 => if x1 ≤ s0.2 then
  some (.inr s0.1, g)
  else
  gb (getR 3 g a0 14) fun x4 => gb (aldI 0 g x4 s0.2) fun x6 => if x6 < a2 then
  x3_thinnestFitting_j69_15 a0 a2 s0.1 s0.2 g
  else
  gb (isO 3 g a0) fun _ => cb (x3_userOfBlanket a0 s0.2 g) fun r9 g10 => if r9 = (-1) then
  if s0.1 = (-1) then
  x3_thinnestFitting_j66_15 a0 a2 s0.2 g10
  else
  gb (getR 3 g10 a0 14) fun x16 => gb (aldI 0 g10 x16 s0.2) fun x18 => gb (getR 3 g10 a0 14) fun x20 => gb (aldI 0 g10 x20 s0.1) fun x22 => if x22 ≤ x18 then
  x3_thinnestFitting_j69_15 a0 a2 s0.1 s0.2 g10
  else
  x3_thinnestFitting_j66_15 a0 a2 s0.2 g10
  else
  x3_thinnestFitting_j69_15 a0 a2 s0.1 s0.2 g10
def x3_thinnestFitting (p : Nat) (b0 : Int32) (g : AH) : Option (Int32 × AH) :=
  gb (getR 3 g p 18) fun x1 => gb (aldR 4 g x1 b0) fun x3 => gb (isO 1 g x3) fun _ => cb (x1_lack x3 g) fun r5 g6 => cb (loopX (x3_thinnestFitting_l15 p r5) 1000 ((-1), 0) g6) fun t10 g11 =>
  some (t10, g11)
def x8_fittingBlanket (p : Nat) (b0 : Int32) (g : AH) : Option ((Int32 ⊕ String) × AH) :=
  gb (isO 8 g p) fun _ => cb (x8_demandHiker p b0 g) fun r1 g2 => Sum.elim (fun v6 =>
  gb (getR 8 g2 p 0) fun x8 => gb (isO 3 g2 x8) fun _ => cb (x3_thinnestFitting x8 b0 g2) fun r10 g11 => some (.inl r10, g11)) (fun w7 => some (.inr w7, g2)) r1
def x8_hikerCount (p : Nat) (g : AH) : Option (Int32 × AH) :=
  gb (getR 8 g p 0) fun x1 => gb (getI 3 g x1 12) fun x3 => some (x3, g)
def x8_bunkOf (p : Nat) (b0 : Int32) (g : AH) : Option ((Int32 ⊕ String) × AH) :=
  gb (isO 8 g p) fun _ => cb (x8_demandHiker p b0 g) fun r1 g2 => Sum.elim (fun v6 =>
  gb (getR 8 g2 p 0) fun x8 => gb (getR 3 g2 x8 18) fun x10 => gb (aldR 4 g2 x10 b0) fun x12 => gb (getI 1 g2 x12 4) fun x14 => some (.inl x14, g2)) (fun w7 => some (.inr w7, g2)) r1
def x8_blanketOf (p : Nat) (b0 : Int32) (g : AH) : Option ((Int32 ⊕ String) × AH) :=
  gb (isO 8 g p) fun _ => cb (x8_demandHiker p b0 g) fun r1 g2 => Sum.elim (fun v6 =>
  gb (getR 8 g2 p 0) fun x8 => gb (getR 3 g2 x8 18) fun x10 => gb (aldR 4 g2 x10 b0) fun x12 => gb (getI 1 g2 x12 5) fun x14 => some (.inl x14, g2)) (fun w7 => some (.inr w7, g2)) r1
def x8_warmth (p : Nat) (b0 : Int32) (g : AH) : Option ((Int32 ⊕ String) × AH) :=
  gb (isO 8 g p) fun _ => cb (x8_demandHiker p b0 g) fun r1 g2 => Sum.elim (fun v6 =>
  gb (getR 8 g2 p 0) fun x8 => gb (getR 3 g2 x8 18) fun x10 => gb (aldR 4 g2 x10 b0) fun x12 => gb (getI 1 g2 x12 7) fun x14 => some (.inl x14, g2)) (fun w7 => some (.inr w7, g2)) r1
def x8_activity (p : Nat) (b0 : Int32) (g : AH) : Option ((Int32 ⊕ String) × AH) :=
  gb (isO 8 g p) fun _ => cb (x8_demandHiker p b0 g) fun r1 g2 => Sum.elim (fun v6 =>
  gb (getR 8 g2 p 0) fun x8 => gb (isO 3 g2 x8) fun _ => cb (x3_activityNow x8 b0 g2) fun r10 g11 => some (.inl r10, g11)) (fun w7 => some (.inr w7, g2)) r1
def x8_hoursOf (p : Nat) (b0 : Int32) (b1 : Int32) (g : AH) : Option ((Int32 ⊕ String) × AH) :=
  gb (isO 8 g p) fun _ => cb (x8_demandHiker p b0 g) fun r1 g2 => Sum.elim (fun v6 =>
  cb (x8_isWithin b1 0 3 g2) fun r8 g9 => if r8 = 0 then
  some (.inr "java/lang/IllegalArgumentException", hcut g9)
  else
  gb (getR 8 g9 p 0) fun x12 => gb (getR 3 g9 x12 18) fun x14 => gb (aldR 4 g9 x14 b0) fun x16 => gb (getR 1 g9 x16 8) fun x18 => gb (aldI 0 g9 x18 b1) fun x20 => some (.inl x20, g9)) (fun w7 => some (.inr w7, g2)) r1
def x8_coinsOf (p : Nat) (b0 : Int32) (g : AH) : Option ((Int32 ⊕ String) × AH) :=
  gb (isO 8 g p) fun _ => cb (x8_demandHiker p b0 g) fun r1 g2 => Sum.elim (fun v6 =>
  gb (getR 8 g2 p 0) fun x8 => gb (getR 3 g2 x8 18) fun x10 => gb (aldR 4 g2 x10 b0) fun x12 => gb (getI 1 g2 x12 2) fun x14 => some (.inl x14, g2)) (fun w7 => some (.inr w7, g2)) r1
def x8_debtOf (p : Nat) (b0 : Int32) (g : AH) : Option ((Int32 ⊕ String) × AH) :=
  gb (isO 8 g p) fun _ => cb (x8_demandHiker p b0 g) fun r1 g2 => Sum.elim (fun v6 =>
  gb (getR 8 g2 p 0) fun x8 => gb (getR 3 g2 x8 18) fun x10 => gb (aldR 4 g2 x10 b0) fun x12 => gb (getI 1 g2 x12 3) fun x14 => some (.inl x14, g2)) (fun w7 => some (.inr w7, g2)) r1
def x1_ranksBefore (p : Nat) (b0 : Nat) (g : AH) : Option (Int32 × AH) :=
  gb (getR 1 g p 8) fun x1 => gb (aldI 0 g x1 2) fun x3 => gb (getR 1 g b0 8) fun x5 => gb (aldI 0 g x5 2) fun x7 => if x3 = x7 then
  gb (getR 1 g p 8) fun x10 => gb (aldI 0 g x10 0) fun x12 => gb (getR 1 g b0 8) fun x14 => gb (aldI 0 g x14 0) fun x16 => if x16 ≤ x12 then
  some (0, g)
  else
  some (1, g)
  else
  gb (getR 1 g p 8) fun x19 => gb (aldI 0 g x19 2) fun x21 => gb (getR 1 g b0 8) fun x23 => gb (aldI 0 g x23 2) fun x25 => if x21 ≤ x25 then
  some (0, g)
  else
  some (1, g)
def x3_rankOfHiker_j68_4 (a0 : Nat) (a1 : Int32) (a2 : Int32) (a3 : Int32) (g : AH) : Option (((Int32 × Int32) ⊕ (Int32)) × AH) :=
  some (.inl (a2, (a3 + 1)), g)
def x3_rankOfHiker_j65_4 (a0 : Nat) (a1 : Int32) (a2 : Int32) (a3 : Int32) (g : AH) : Option (((Int32 × Int32) ⊕ (Int32)) × AH) :=
  x3_rankOfHiker_j68_4 a0 a1 (a2 + 1) a3 g
def x3_rankOfHiker_j40_4 (a0 : Nat) (a1 : Int32) (a2 : Int32) (a3 : Int32) (s0 : Int32) (g : AH) : Option (((Int32 × Int32) ⊕ (Int32)) × AH) :=
  if s0 = 0 then
  gb (getR 3 g a0 18) fun x2 => gb (aldR 4 g x2 a3) fun x4 => gb (getR 3 g a0 18) fun x6 => gb (aldR 4 g x6 a1) fun x8 => gb (isO 1 g x4) fun _ => cb (x1_ranksBefore x4 x8 g) fun r10 g11 => if r10 = 0 then
  x3_rankOfHiker_j68_4 a0 a1 a2 a3 g11
  else
  x3_rankOfHiker_j65_4 a0 a1 a2 a3 g11
  else
  x3_rankOfHiker_j65_4 a0 a1 a2 a3 g
def x3_rankOfHiker_j39_4 (a0 : Nat) (a1 : Int32) (a2 : Int32) (a3 : Int32) (g : AH) : Option (((Int32 × Int32) ⊕ (Int32)) × AH) :=
  x3_rankOfHiker_j40_4 a0 a1 a2 a3 0 g
def x3_rankOfHiker_l4 (a0 : Nat) (a1 : Int32) (s0 : Int32 × Int32) (g : AH) : Option (((Int32 × Int32) ⊕ (Int32)) × AH) :=
  gb (getI 3 g a0 12) fun x1 => if x1 ≤ s0.2 then
  some (.inr s0.1, g)
  else
  if a1 ≤ s0.2 then
  x3_rankOfHiker_j39_4 a0 a1 s0.1 s0.2 g
  else
  gb (getR 3 g a0 18) fun x5 => gb (aldR 4 g x5 a1) fun x7 => gb (getR 3 g a0 18) fun x9 => gb (aldR 4 g x9 s0.2) fun x11 => gb (isO 1 g x7) fun _ => cb (x1_ranksBefore x7 x11 g) fun r13 g14 => if r13 = 0 then
  x3_rankOfHiker_j40_4 a0 a1 s0.1 s0.2 1 g14
  else
  x3_rankOfHiker_j39_4 a0 a1 s0.1 s0.2 g14
def x3_rankOfHiker (p : Nat) (b0 : Int32) (g : AH) : Option (Int32 × AH) :=
  cb (loopX (x3_rankOfHiker_l4 p b0) 1000 (0, 0) g) fun t1 g2 =>
  some (t1, g2)
def x3_hikerOfRank_l2 (a0 : Nat) (a1 : Int32) (s0 : Int32) (g : AH) : Option (((Int32) ⊕ ((Unit) ⊕ Int32)) × AH) :=
  gb (getI 3 g a0 12) fun x1 => if x1 ≤ s0 then
  some (.inr (.inl ()), g)
  else
  gb (isO 3 g a0) fun _ => cb (x3_rankOfHiker a0 s0 g) fun r4 g5 => if r4 = a1 then
  some (.inr (.inr s0), g5)
  else
  some (.inl (s0 + 1), g5)
def x3_hikerOfRank (p : Nat) (b0 : Int32) (g : AH) : Option (Int32 × AH) :=
  cb (loopX (x3_hikerOfRank_l2 p b0) 1000 0 g) fun t1 g2 => Sum.elim (fun t4 =>
  some ((-1), g2)) (fun t5 => some (t5, g2)) t1
def x8_hikerAtRank (p : Nat) (b0 : Int32) (g : AH) : Option ((Int32 ⊕ String) × AH) :=
  gb (getR 8 g p 0) fun x1 => gb (isO 3 g x1) fun _ => cb (x3_hikerOfRank x1 b0 g) fun r3 g4 => if r3 = (-1) then
  some (.inr "java/util/NoSuchElementException", hcut g4)
  else
  some (.inl r3, g4)
def x5_loudestDisturber_j74_22 (a0 : Nat) (a1 : Nat) (a2 : Int32) (a3 : Int32) (a4 : Int32) (g : AH) : Option (((Int32 × Int32 × Int32) ⊕ (Int32)) × AH) :=
  gb (getR 5 g a0 0) fun x1 => gb (getR 3 g x1 18) fun x3 => gb (aldR 4 g x3 a4) fun x5 => gb (getR 3 g a1 18) fun x7 => gb (aldR 4 g x7 a4) fun x9 => gb (getI 1 g x9 1) fun x11 => gb (putV 1 g x5 1 (.int x11)) fun g13 => some (.inl (a2, a3, (a4 + 1)), g13)
def x5_loudestDisturber_l22 (a0 : Nat) (a1 : Nat) (s0 : Int32 × Int32 × Int32) (g : AH) : Option (((Int32 × Int32 × Int32) ⊕ (Int32)) × AH) :=
  gb (getI 3 g a1 12) fun x1 => if x1 ≤ s0.2.2 then
  some (.inr s0.1, g)
  else
  gb (getR 5 g a0 0) fun x4 => gb (getR 3 g x4 18) fun x6 => gb (aldR 4 g x6 s0.2.2) fun x8 => gb (putV 1 g x8 1 (.int 0)) fun g10 => gb (getR 5 g10 a0 0) fun x12 => gb (isO 3 g10 x12) fun _ => cb (x3_measure x12 g10) fun r14 g15 => gb (getR 5 g15 a0 0) fun x19 => gb (isO 3 g15 x19) fun _ => cb (x3_countOf x19 1 g15) fun r21 g22 => if s0.2.1 ≤ r21 then
  x5_loudestDisturber_j74_22 a0 a1 s0.1 s0.2.1 s0.2.2 g22
  else
  x5_loudestDisturber_j74_22 a0 a1 s0.2.2 r21 s0.2.2 g22
def x5_loudestDisturber (p : Nat) (b0 : Nat) (g : AH) : Option (Int32 × AH) :=
  gb (getR 5 g p 0) fun x1 => gb (isO 3 g x1) fun _ => cb (x3_copyFrom x1 b0 g) fun r3 g4 => gb (getR 5 g4 p 0) fun x8 => gb (isO 3 g4 x8) fun _ => cb (x3_countOf x8 1 g4) fun r10 g11 => cb (loopX (x5_loudestDisturber_l22 p b0) 1000 ((-1), r10, 0) g11) fun t15 g16 =>
  some (t15, g16)
def x8_worstSnorer (p : Nat) (g : AH) : Option (Int32 × AH) :=
  gb (getR 8 g p 2) fun x1 => gb (getR 8 g p 0) fun x3 => gb (isO 5 g x1) fun _ => cb (x5_loudestDisturber x1 x3 g) fun r5 g6 => some (r5, g6)
def x8_hikersWithout (p : Nat) (g : AH) : Option (Int32 × AH) :=
  gb (getR 8 g p 0) fun x1 => gb (isO 3 g x1) fun _ => cb (x3_hikersWithoutBlanket x1 g) fun r3 g4 => some (r3, g4)
def x8_coldHikers (p : Nat) (g : AH) : Option (Int32 × AH) :=
  gb (getR 8 g p 0) fun x1 => gb (isO 3 g x1) fun _ => cb (x3_coldCount x1 g) fun r3 g4 => some (r3, g4)
def x3_hikerMissingMost_j55_4 (a0 : Nat) (a1 : Int32) (a2 : Int32) (g : AH) : Option (((Int32 × Int32) ⊕ (Int32)) × AH) :=
  some (.inl (a1, (a2 + 1)), g)
def x3_hikerMissingMost_l4 (a0 : Nat) (s0 : Int32 × Int32) (g : AH) : Option (((Int32 × Int32) ⊕ (Int32)) × AH) :=
  gb (getI 3 g a0 12) fun x1 => if x1 ≤ s0.2 then
  some (.inr s0.1, g)
  else
  gb (getR 3 g a0 18) fun x4 => gb (aldR 4 g x4 s0.2) fun x6 => gb (getI 1 g x6 0) fun x8 => gb (getR 3 g a0 18) fun x10 => gb (aldR 4 g x10 s0.2) fun x12 => gb (getI 1 g x12 7) fun x14 => gb (getR 3 g a0 18) fun x16 => gb (aldR 4 g x16 s0.1) fun x18 => gb (getI 1 g x18 0) fun x20 => gb (getR 3 g a0 18) fun x22 => gb (aldR 4 g x22 s0.1) fun x24 => gb (getI 1 g x24 7) fun x26 => if (x8 - x14) ≤ (x20 - x26) then
  x3_hikerMissingMost_j55_4 a0 s0.1 s0.2 g
  else
  x3_hikerMissingMost_j55_4 a0 s0.2 s0.2 g
def x3_hikerMissingMost (p : Nat) (g : AH) : Option (Int32 × AH) :=
  cb (loopX (x3_hikerMissingMost_l4 p) 1000 (0, 1) g) fun t1 g2 =>
  some (t1, g2)
def x8_coldestHiker (p : Nat) (g : AH) : Option (Int32 × AH) :=
  gb (getR 8 g p 0) fun x1 => gb (isO 3 g x1) fun _ => cb (x3_hikerMissingMost x1 g) fun r3 g4 => some (r3, g4)
def x3_hikersLacking_j32_4 (a0 : Nat) (a1 : Int32) (a2 : Int32) (a3 : Int32) (g : AH) : Option (((Int32 × Int32) ⊕ (Int32)) × AH) :=
  some (.inl (a2, (a3 + 1)), g)
def x3_hikersLacking_l4 (a0 : Nat) (a1 : Int32) (s0 : Int32 × Int32) (g : AH) : Option (((Int32 × Int32) ⊕ (Int32)) × AH) :=
  gb (getI 3 g a0 12) fun x1 => if x1 ≤ s0.2 then
  some (.inr s0.1, g)
  else
  gb (getR 3 g a0 18) fun x4 => gb (aldR 4 g x4 s0.2) fun x6 => gb (isO 1 g x6) fun _ => cb (x1_lack x6 g) fun r8 g9 => cb (x8_isWithin r8 1 a1 g9) fun r13 g14 => if r13 = 0 then
  x3_hikersLacking_j32_4 a0 a1 s0.1 s0.2 g14
  else
  x3_hikersLacking_j32_4 a0 a1 (s0.1 + 1) s0.2 g14
def x3_hikersLacking (p : Nat) (b0 : Int32) (g : AH) : Option (Int32 × AH) :=
  cb (loopX (x3_hikersLacking_l4 p b0) 1000 (0, 0) g) fun t1 g2 =>
  some (t1, g2)
def x3_blanketsOfThickness_j25_4 (a0 : Nat) (a1 : Int32) (a2 : Int32) (a3 : Int32) (g : AH) : Option (((Int32 × Int32) ⊕ (Int32)) × AH) :=
  some (.inl (a2, (a3 + 1)), g)
def x3_blanketsOfThickness_l4 (a0 : Nat) (a1 : Int32) (s0 : Int32 × Int32) (g : AH) : Option (((Int32 × Int32) ⊕ (Int32)) × AH) :=
  gb (getI 3 g a0 10) fun x1 => if x1 ≤ s0.2 then
  some (.inr s0.1, g)
  else
  gb (getR 3 g a0 14) fun x4 => gb (aldI 0 g x4 s0.2) fun x6 => if x6 = a1 then
  x3_blanketsOfThickness_j25_4 a0 a1 (s0.1 + 1) s0.2 g
  else
  x3_blanketsOfThickness_j25_4 a0 a1 s0.1 s0.2 g
def x3_blanketsOfThickness (p : Nat) (b0 : Int32) (g : AH) : Option (Int32 × AH) :=
  cb (loopX (x3_blanketsOfThickness_l4 p b0) 1000 (0, 0) g) fun t1 g2 =>
  some (t1, g2)
def x3_coldIfSharedBest_l4 (a0 : Nat) (s0 : Int32 × Int32) (g : AH) : Option (((Int32 × Int32) ⊕ (Int32)) × AH) :=
  if 9 < s0.2 then
  some (.inr s0.1, g)
  else
  gb (isO 3 g a0) fun _ => cb (x3_hikersLacking a0 s0.2 g) fun r2 g3 => gb (isO 3 g3 a0) fun _ => cb (x3_blanketsOfThickness a0 s0.2 g3) fun r7 g8 => some (.inl ((s0.1 + (if r7 < (r2 - s0.1) then r7 else (r2 - s0.1))), (s0.2 + 1)), g8)
def x3_coldIfSharedBest (p : Nat) (g : AH) : Option (Int32 × AH) :=
  cb (loopX (x3_coldIfSharedBest_l4 p) 1000 (0, 1) g) fun t1 g2 =>
  gb (isO 3 g2 p) fun _ => cb (x3_hikersLacking p 2147483647 g2) fun r4 g5 => some ((r4 - t1), g5)
def x8_fewestCold (p : Nat) (g : AH) : Option (Int32 × AH) :=
  gb (getR 8 g p 0) fun x1 => gb (isO 3 g x1) fun _ => cb (x3_coldIfSharedBest x1 g) fun r3 g4 => some (r3, g4)
def x3_savedByExchange_j58 (a2 : Int32) (s0 : Int32) (s1 : Int32) (g : AH) : Option (Int32 × AH) :=
  some ((a2 - (s1 + s0)), g)
def x3_savedByExchange_j42 (a0 : Nat) (a1 : Nat) (a2 : Int32) (s0 : Int32) (g : AH) : Option (Int32 × AH) :=
  gb (isO 1 g a1) fun _ => cb (x1_lack a1 g) fun r1 g2 => gb (getI 1 g2 a0 6) fun x6 => if r1 ≤ x6 then
  x3_savedByExchange_j58 a2 0 s0 g2
  else
  x3_savedByExchange_j58 a2 1 s0 g2
def x3_savedByExchange_j24 (a0 : Nat) (a1 : Nat) (s0 : Int32) (s1 : Int32) (g : AH) : Option (Int32 × AH) :=
  gb (isO 1 g a0) fun _ => cb (x1_lack a0 g) fun r1 g2 => gb (getI 1 g2 a1 6) fun x6 => if r1 ≤ x6 then
  x3_savedByExchange_j42 a0 a1 (s1 + s0) 0 g2
  else
  x3_savedByExchange_j42 a0 a1 (s1 + s0) 1 g2
def x3_savedByExchange_j12 (a0 : Nat) (a1 : Nat) (s0 : Int32) (g : AH) : Option (Int32 × AH) :=
  gb (isO 1 g a1) fun _ => cb (x1_isCold a1 g) fun r1 g2 => if r1 = 0 then
  x3_savedByExchange_j24 a0 a1 0 s0 g2
  else
  x3_savedByExchange_j24 a0 a1 1 s0 g2
def x3_savedByExchange (b0 : Nat) (b1 : Nat) (g : AH) : Option (Int32 × AH) :=
  gb (isO 1 g b0) fun _ => cb (x1_isCold b0 g) fun r1 g2 => if r1 = 0 then
  x3_savedByExchange_j12 b0 b1 0 g2
  else
  x3_savedByExchange_j12 b0 b1 1 g2
def x3_exchangeForFewestCold_j63_19 (a0 : Nat) (a1 : Int32) (a2 : Int32) (a3 : Int32) (a4 : Int32) (g : AH) : Option (((Int32 × Int32 × Int32) ⊕ (Int32 × Int32)) × AH) :=
  some (.inl (a1, a2, (a4 + 1)), g)
def x3_exchangeForFewestCold_l19 (a0 : Nat) (a3 : Int32) (s0 : Int32 × Int32 × Int32) (g : AH) : Option (((Int32 × Int32 × Int32) ⊕ (Int32 × Int32)) × AH) :=
  gb (getI 3 g a0 12) fun x1 => if x1 ≤ s0.2.2 then
  some (.inr (s0.1, s0.2.1), g)
  else
  gb (getR 3 g a0 18) fun x4 => gb (aldR 4 g x4 a3) fun x6 => gb (getR 3 g a0 18) fun x8 => gb (aldR 4 g x8 s0.2.2) fun x10 => cb (x3_savedByExchange x6 x10 g) fun r12 g13 => if r12 ≤ s0.2.1 then
  x3_exchangeForFewestCold_j63_19 a0 s0.1 s0.2.1 a3 s0.2.2 g13
  else
  x3_exchangeForFewestCold_j63_19 a0 ((10 * a3) + s0.2.2) r12 a3 s0.2.2 g13
def x3_exchangeForFewestCold_l6 (a0 : Nat) (s0 : Int32 × Int32 × Int32) (g : AH) : Option (((Int32 × Int32 × Int32) ⊕ (Int32)) × AH) :=
  gb (getI 3 g a0 12) fun x1 => if x1 ≤ s0.2.2 then
  some (.inr s0.1, g)
  else
  cb (loopX (x3_exchangeForFewestCold_l19 a0 s0.2.2) 1000 (s0.1, s0.2.1, (s0.2.2 + 1)) g) fun t4 g5 =>
  some (.inl (t4.1, t4.2, (s0.2.2 + 1)), g5)
def x3_exchangeForFewestCold (p : Nat) (g : AH) : Option (Int32 × AH) :=
  cb (loopX (x3_exchangeForFewestCold_l6 p) 1000 ((-1), 0, 0) g) fun t1 g2 =>
  some (t1, g2)
def x8_bestExchange (p : Nat) (g : AH) : Option (Int32 × AH) :=
  gb (getR 8 g p 0) fun x1 => gb (isO 3 g x1) fun _ => cb (x3_exchangeForFewestCold x1 g) fun r3 g4 => some (r3, g4)
def x5_bunkForMostWarmth_j111_19 (a0 : Nat) (a1 : Nat) (a2 : Int32) (a3 : Int32) (a4 : Int32) (a5 : Int32) (a6 : Int32) (g : AH) : Option (((Int32 × Int32 × Int32 × Int32) ⊕ (Int32)) × AH) :=
  some (.inl (a3, a4, a5, (a6 + 1)), g)
def x5_bunkForMostWarmth_j100_19 (a0 : Nat) (a1 : Nat) (a2 : Int32) (a6 : Int32) (a7 : Int32) (a8 : Int32) (g : AH) : Option (((Int32 × Int32 × Int32 × Int32) ⊕ (Int32)) × AH) :=
  x5_bunkForMostWarmth_j111_19 a0 a1 a2 a6 a7 a8 a6 g
def x5_bunkForMostWarmth_l19 (a0 : Nat) (a1 : Nat) (a2 : Int32) (s0 : Int32 × Int32 × Int32 × Int32) (g : AH) : Option (((Int32 × Int32 × Int32 × Int32) ⊕ (Int32)) × AH) :=
  gb (getI 3 g a1 9) fun x1 => if x1 ≤ s0.2.2.2 then
  some (.inr s0.1, g)
  else
  cb (x5_isFreeFor a1 a2 s0.2.2.2 g) fun r4 g5 => if r4 = 0 then
  x5_bunkForMostWarmth_j111_19 a0 a1 a2 s0.1 s0.2.1 s0.2.2.1 s0.2.2.2 g5
  else
  gb (getR 5 g5 a0 0) fun x8 => gb (isO 3 g5 x8) fun _ => cb (x3_moveTo x8 a2 s0.2.2.2 g5) fun r10 g11 => gb (getR 5 g11 a0 0) fun x15 => gb (getR 3 g11 x15 18) fun x17 => gb (aldR 4 g11 x17 a2) fun x19 => gb (getI 1 g11 x19 7) fun x21 => gb (getR 5 g11 a0 0) fun x23 => gb (isO 3 g11 x23) fun _ => cb (x3_noiseAt x23 s0.2.2.2 g11) fun r25 g26 => if s0.1 = (-1) then
  x5_bunkForMostWarmth_j100_19 a0 a1 a2 s0.2.2.2 x21 r25 g26
  else
  if s0.2.1 < x21 then
  x5_bunkForMostWarmth_j100_19 a0 a1 a2 s0.2.2.2 x21 r25 g26
  else
  if x21 = s0.2.1 then
  if s0.2.2.1 ≤ r25 then
  x5_bunkForMostWarmth_j111_19 a0 a1 a2 s0.1 s0.2.1 s0.2.2.1 s0.2.2.2 g26
  else
  x5_bunkForMostWarmth_j100_19 a0 a1 a2 s0.2.2.2 x21 r25 g26
  else
  x5_bunkForMostWarmth_j111_19 a0 a1 a2 s0.1 s0.2.1 s0.2.2.1 s0.2.2.2 g26
def x5_bunkForMostWarmth (p : Nat) (b0 : Nat) (b1 : Int32) (g : AH) : Option (Int32 × AH) :=
  gb (getR 5 g p 0) fun x1 => gb (isO 3 g x1) fun _ => cb (x3_copyFrom x1 b0 g) fun r3 g4 => cb (loopX (x5_bunkForMostWarmth_l19 p b0 b1) 1000 ((-1), 0, 0, 0) g4) fun t8 g9 =>
  some (t8, g9)
def x8_warmestBunk (p : Nat) (b0 : Int32) (g : AH) : Option ((Int32 ⊕ String) × AH) :=
  gb (isO 8 g p) fun _ => cb (x8_demandHiker p b0 g) fun r1 g2 => Sum.elim (fun v6 =>
  gb (getR 8 g2 p 2) fun x8 => gb (getR 8 g2 p 0) fun x10 => gb (isO 5 g2 x8) fun _ => cb (x5_bunkForMostWarmth x8 x10 b0 g2) fun r12 g13 => some (.inl r12, g13)) (fun w7 => some (.inr w7, g2)) r1
def x8_hutCoins (p : Nat) (g : AH) : Option (Int32 × AH) :=
  gb (getR 8 g p 0) fun x1 => gb (getI 3 g x1 4) fun x3 => some (x3, g)
def x8_burnedLogs (p : Nat) (g : AH) : Option (Int32 × AH) :=
  gb (getR 8 g p 0) fun x1 => gb (getI 3 g x1 5) fun x3 => some (x3, g)
def x3_sumOfDebts_l4 (a0 : Nat) (s0 : Int32 × Int32) (g : AH) : Option (((Int32 × Int32) ⊕ (Int32)) × AH) :=
  gb (getI 3 g a0 12) fun x1 => if x1 ≤ s0.2 then
  some (.inr s0.1, g)
  else
  gb (getR 3 g a0 18) fun x4 => gb (aldR 4 g x4 s0.2) fun x6 => gb (getI 1 g x6 3) fun x8 => some (.inl ((s0.1 + x8), (s0.2 + 1)), g)
def x3_sumOfDebts (p : Nat) (g : AH) : Option (Int32 × AH) :=
  cb (loopX (x3_sumOfDebts_l4 p) 1000 (0, 0) g) fun t1 g2 =>
  some (t1, g2)
def x8_totalDebt (p : Nat) (g : AH) : Option (Int32 × AH) :=
  gb (getR 8 g p 0) fun x1 => gb (isO 3 g x1) fun _ => cb (x3_sumOfDebts x1 g) fun r3 g4 => some (r3, g4)
def x3_thingsUsedTwice_j106_16 (a0 : Nat) (a2 : Int32) (a3 : Int32) (s0 : Int32) (s1 : Int32) (g : AH) : Option (((Int32 × Int32) ⊕ (Int32)) × AH) :=
  some (.inl ((s1 + s0), (a3 + 1)), g)
def x3_thingsUsedTwice_j105_16 (a0 : Nat) (a2 : Int32) (a3 : Int32) (s0 : Int32) (g : AH) : Option (((Int32 × Int32) ⊕ (Int32)) × AH) :=
  x3_thingsUsedTwice_j106_16 a0 a2 a3 0 s0 g
def x3_thingsUsedTwice_j64_16 (a0 : Nat) (a2 : Int32) (a3 : Int32) (s0 : Int32) (s1 : Int32) (g : AH) : Option (((Int32 × Int32) ⊕ (Int32)) × AH) :=
  gb (getR 3 g a0 18) fun x1 => gb (aldR 4 g x1 a2) fun x3 => gb (getI 1 g x3 5) fun x5 => if x5 = (-1) then
  x3_thingsUsedTwice_j105_16 a0 a2 a3 (s1 + s0) g
  else
  gb (getR 3 g a0 18) fun x8 => gb (aldR 4 g x8 a2) fun x10 => gb (getI 1 g x10 5) fun x12 => gb (getR 3 g a0 18) fun x14 => gb (aldR 4 g x14 a3) fun x16 => gb (getI 1 g x16 5) fun x18 => if x12 = x18 then
  x3_thingsUsedTwice_j106_16 a0 a2 a3 1 (s1 + s0) g
  else
  x3_thingsUsedTwice_j105_16 a0 a2 a3 (s1 + s0) g
def x3_thingsUsedTwice_j63_16 (a0 : Nat) (a2 : Int32) (a3 : Int32) (s0 : Int32) (g : AH) : Option (((Int32 × Int32) ⊕ (Int32)) × AH) :=
  x3_thingsUsedTwice_j64_16 a0 a2 a3 0 s0 g
def x3_thingsUsedTwice_l16 (a0 : Nat) (a2 : Int32) (s0 : Int32 × Int32) (g : AH) : Option (((Int32 × Int32) ⊕ (Int32)) × AH) :=
  gb (getI 3 g a0 12) fun x1 => if x1 ≤ s0.2 then
  some (.inr s0.1, g)
  else
  gb (getR 3 g a0 18) fun x4 => gb (aldR 4 g x4 a2) fun x6 => gb (getI 1 g x6 4) fun x8 => if x8 = (-1) then
  x3_thingsUsedTwice_j63_16 a0 a2 s0.2 s0.1 g
  else
  gb (getR 3 g a0 18) fun x11 => gb (aldR 4 g x11 a2) fun x13 => gb (getI 1 g x13 4) fun x15 => gb (getR 3 g a0 18) fun x17 => gb (aldR 4 g x17 s0.2) fun x19 => gb (getI 1 g x19 4) fun x21 => if x15 = x21 then
  x3_thingsUsedTwice_j64_16 a0 a2 s0.2 1 s0.1 g
  else
  x3_thingsUsedTwice_j63_16 a0 a2 s0.2 s0.1 g
def x3_thingsUsedTwice_l4 (a0 : Nat) (s0 : Int32 × Int32) (g : AH) : Option (((Int32 × Int32) ⊕ (Int32)) × AH) :=
  gb (getI 3 g a0 12) fun x1 => if x1 ≤ s0.2 then
  some (.inr s0.1, g)
  else
  cb (loopX (x3_thingsUsedTwice_l16 a0 s0.2) 1000 (s0.1, (s0.2 + 1)) g) fun t4 g5 =>
  some (.inl (t4, (s0.2 + 1)), g5)
def x3_thingsUsedTwice (p : Nat) (g : AH) : Option (Int32 × AH) :=
  cb (loopX (x3_thingsUsedTwice_l4 p) 1000 (0, 0) g) fun t1 g2 =>
  some (t1, g2)
def x8_auditDifference (p : Nat) (g : AH) : Option (Int32 × AH) :=
  gb (getR 8 g p 0) fun x1 => gb (getI 3 g x1 7) fun x3 => gb (getR 8 g p 0) fun x5 => gb (getI 3 g x5 4) fun x7 => gb (getR 8 g p 0) fun x9 => gb (isO 3 g x9) fun _ => cb (x3_sumOfCoins x9 g) fun r11 g12 => gb (getR 8 g12 p 0) fun x16 => gb (getI 3 g12 x16 8) fun x18 => gb (getR 8 g12 p 0) fun x20 => gb (getI 3 g12 x20 1) fun x22 => gb (getR 8 g12 p 0) fun x24 => gb (getI 3 g12 x24 5) fun x26 => gb (getR 8 g12 p 0) fun x28 => gb (isO 3 g12 x28) fun _ => cb (x3_thingsUsedTwice x28 g12) fun r30 g31 => some ((((if (0:Int32) ≤ ((x3 - x7) - r11) then ((x3 - x7) - r11) else 0 - ((x3 - x7) - r11)) + (if (0:Int32) ≤ ((x18 - x22) - x26) then ((x18 - x22) - x26) else 0 - ((x18 - x22) - x26))) + r30), g31)
def x3_sumOfWarmths_l4 (a0 : Nat) (s0 : Int32 × Int32) (g : AH) : Option (((Int32 × Int32) ⊕ (Int32)) × AH) :=
  gb (getI 3 g a0 12) fun x1 => if x1 ≤ s0.2 then
  some (.inr s0.1, g)
  else
  gb (getR 3 g a0 18) fun x4 => gb (aldR 4 g x4 s0.2) fun x6 => gb (getI 1 g x6 7) fun x8 => some (.inl ((s0.1 + x8), (s0.2 + 1)), g)
def x3_sumOfWarmths (p : Nat) (g : AH) : Option (Int32 × AH) :=
  cb (loopX (x3_sumOfWarmths_l4 p) 1000 (0, 0) g) fun t1 g2 =>
  some (t1, g2)
def x8_meanWarmth (p : Nat) (g : AH) : Option (UInt64 × AH) :=
  gb (getR 8 g p 0) fun x1 => gb (getI 3 g x1 12) fun x3 => if 1 ≤ x3 then
  gb (getR 8 g p 0) fun x6 => gb (isO 3 g x6) fun _ => cb (x3_sumOfWarmths x6 g) fun r8 g9 => if n64 (FP.ddiv (FP.i2d r8) (FP.i2d x3)) then some ((FP.ddiv (FP.i2d r8) (FP.i2d x3)), g9) else none
  else
  some (FP.dconst0, g)
def x3_sumOfHours_l4 (a0 : Nat) (a1 : Int32) (s0 : Int32 × Int32) (g : AH) : Option (((Int32 × Int32) ⊕ (Int32)) × AH) :=
  gb (getI 3 g a0 12) fun x1 => if x1 ≤ s0.2 then
  some (.inr s0.1, g)
  else
  gb (getR 3 g a0 18) fun x4 => gb (aldR 4 g x4 s0.2) fun x6 => gb (getR 1 g x6 8) fun x8 => gb (aldI 0 g x8 a1) fun x10 => some (.inl ((s0.1 + x10), (s0.2 + 1)), g)
def x3_sumOfHours (p : Nat) (b0 : Int32) (g : AH) : Option (Int32 × AH) :=
  cb (loopX (x3_sumOfHours_l4 p b0) 1000 (0, 0) g) fun t1 g2 =>
  some (t1, g2)
def x8_sleepShare (p : Nat) (g : AH) : Option (UInt32 × AH) :=
  gb (getR 8 g p 0) fun x1 => gb (getI 3 g x1 0) fun x3 => gb (getR 8 g p 0) fun x5 => gb (getI 3 g x5 12) fun x7 => if 1 ≤ (x3 * x7) then
  gb (getR 8 g p 0) fun x10 => gb (isO 3 g x10) fun _ => cb (x3_sumOfHours x10 2 g) fun r12 g13 => if n32 (FP.fdiv (FP.i2f r12) (FP.i2f (x3 * x7))) then some ((FP.fdiv (FP.i2f r12) (FP.i2f (x3 * x7))), g13) else none
  else
  some (FP.fconst0, g)
def x8_demandForeseeable (b0 : Int32) (g : AH) : Option ((Unit ⊕ String) × AH) :=
  cb (x8_isWithin b0 0 96 g) fun r1 g2 => if r1 = 0 then
  some (.inr "java/lang/IllegalArgumentException", hcut g2)
  else
  some (.inl (), g2)
def x3_passTimeUnwatched_l2 (a0 : Nat) (a1 : Int32) (s0 : Int32) (g : AH) : Option (((Int32) ⊕ (Unit)) × AH) :=
  if a1 ≤ s0 then
  some (.inr (), g)
  else
  gb (isO 3 g a0) fun _ => cb (x3_burnLogs a0 g) fun r2 g3 => gb (isO 3 g3 a0) fun _ => cb (x3_endHour a0 g3) fun r7 g8 => some (.inl (s0 + 1), g8)
def x3_passTimeUnwatched (p : Nat) (b0 : Int32) (g : AH) : Option (Unit × AH) :=
  cb (loopX (x3_passTimeUnwatched_l2 p b0) 1000 0 g) fun t1 g2 =>
  some ((), g2)
def x5_temperatureIn (p : Nat) (b0 : Nat) (b1 : Int32) (g : AH) : Option (Int32 × AH) :=
  gb (getR 5 g p 0) fun x1 => gb (isO 3 g x1) fun _ => cb (x3_copyFrom x1 b0 g) fun r3 g4 => gb (getR 5 g4 p 0) fun x8 => gb (isO 3 g4 x8) fun _ => cb (x3_passTimeUnwatched x8 b1 g4) fun r10 g11 => gb (getR 5 g11 p 0) fun x15 => gb (isO 3 g11 x15) fun _ => cb (x3_temperatureInside x15 g11) fun r17 g18 => some (r17, g18)
def x8_temperatureAfter (p : Nat) (b0 : Int32) (g : AH) : Option ((Int32 ⊕ String) × AH) :=
  cb (x8_demandForeseeable b0 g) fun r1 g2 => Sum.elim (fun v4 =>
  gb (getR 8 g2 p 2) fun x6 => gb (getR 8 g2 p 0) fun x8 => gb (isO 5 g2 x6) fun _ => cb (x5_temperatureIn x6 x8 b0 g2) fun r10 g11 => some (.inl r10, g11)) (fun w5 => some (.inr w5, g2)) r1
def x5_shiversToDawn (p : Nat) (b0 : Nat) (b1 : Int32) (g : AH) : Option (Int32 × AH) :=
  gb (getR 5 g p 0) fun x1 => gb (isO 3 g x1) fun _ => cb (x3_copyFrom x1 b0 g) fun r3 g4 => gb (getR 5 g4 p 0) fun x8 => gb (isO 3 g4 b0) fun _ => cb (x3_hoursToDawn b0 g4) fun r10 g11 => gb (isO 3 g11 x8) fun _ => cb (x3_passTime x8 r10 g11) fun r15 g16 => gb (getR 5 g16 p 0) fun x20 => gb (getR 3 g16 x20 18) fun x22 => gb (aldR 4 g16 x22 b1) fun x24 => gb (getR 1 g16 x24 8) fun x26 => gb (aldI 0 g16 x26 0) fun x28 => gb (getR 3 g16 b0 18) fun x30 => gb (aldR 4 g16 x30 b1) fun x32 => gb (getR 1 g16 x32 8) fun x34 => gb (aldI 0 g16 x34 0) fun x36 => some ((x28 - x36), g16)
def x8_shiversUntilDawn (p : Nat) (b0 : Int32) (g : AH) : Option ((Int32 ⊕ String) × AH) :=
  gb (isO 8 g p) fun _ => cb (x8_demandHiker p b0 g) fun r1 g2 => Sum.elim (fun v6 =>
  gb (getR 8 g2 p 2) fun x8 => gb (getR 8 g2 p 0) fun x10 => gb (isO 5 g2 x8) fun _ => cb (x5_shiversToDawn x8 x10 b0 g2) fun r12 g13 => some (.inl r12, g13)) (fun w7 => some (.inr w7, g2)) r1
def x5_paymentNextDawn (p : Nat) (b0 : Nat) (b1 : Int32) (g : AH) : Option (Int32 × AH) :=
  gb (getR 5 g p 0) fun x1 => gb (isO 3 g x1) fun _ => cb (x3_copyFrom x1 b0 g) fun r3 g4 => gb (getR 5 g4 p 0) fun x8 => gb (isO 3 g4 b0) fun _ => cb (x3_hoursToDawn b0 g4) fun r10 g11 => gb (isO 3 g11 x8) fun _ => cb (x3_passTimeUnwatched x8 (r10 - 1) g11) fun r15 g16 => gb (getR 5 g16 p 0) fun x20 => gb (isO 3 g16 x20) fun _ => cb (x3_burnLogs x20 g16) fun r22 g23 => gb (getR 5 g23 p 0) fun x27 => gb (isO 3 g23 x27) fun _ => cb (x3_partOfLogs x27 b1 g23) fun r29 g30 => gb (getR 5 g30 p 0) fun x34 => gb (getR 3 g30 x34 18) fun x36 => gb (aldR 4 g30 x36 b1) fun x38 => gb (isO 1 g30 x38) fun _ => cb (x1_feeForBlanket x38 g30) fun r40 g41 => some (((3 + r29) + r40), g41)
def x8_paymentAtDawn (p : Nat) (b0 : Int32) (g : AH) : Option ((Int32 ⊕ String) × AH) :=
  gb (isO 8 g p) fun _ => cb (x8_demandHiker p b0 g) fun r1 g2 => Sum.elim (fun v6 =>
  gb (getR 8 g2 p 2) fun x8 => gb (getR 8 g2 p 0) fun x10 => gb (isO 5 g2 x8) fun _ => cb (x5_paymentNextDawn x8 x10 b0 g2) fun r12 g13 => some (.inl r12, g13)) (fun w7 => some (.inr w7, g2)) r1
def x5_debtIn (p : Nat) (b0 : Nat) (b1 : Int32) (b2 : Int32) (g : AH) : Option (Int32 × AH) :=
  gb (getR 5 g p 0) fun x1 => gb (isO 3 g x1) fun _ => cb (x3_copyFrom x1 b0 g) fun r3 g4 => gb (getR 5 g4 p 0) fun x8 => gb (isO 3 g4 x8) fun _ => cb (x3_passTimeUnwatched x8 b2 g4) fun r10 g11 => gb (getR 5 g11 p 0) fun x15 => gb (getR 3 g11 x15 18) fun x17 => gb (aldR 4 g11 x17 b1) fun x19 => gb (getI 1 g11 x19 3) fun x21 => some (x21, g11)
def x8_debtAfter (p : Nat) (b0 : Int32) (b1 : Int32) (g : AH) : Option ((Int32 ⊕ String) × AH) :=
  gb (isO 8 g p) fun _ => cb (x8_demandHiker p b0 g) fun r1 g2 => Sum.elim (fun v6 =>
  cb (x8_demandForeseeable b1 g2) fun r8 g9 => Sum.elim (fun v11 =>
  gb (getR 8 g9 p 2) fun x13 => gb (getR 8 g9 p 0) fun x15 => gb (isO 5 g9 x13) fun _ => cb (x5_debtIn x13 x15 b0 b1 g9) fun r17 g18 => some (.inl r17, g18)) (fun w12 => some (.inr w12, g9)) r8) (fun w7 => some (.inr w7, g2)) r1
def x5_dawnsToDebt_l10 (a0 : Nat) (a2 : Int32) (s0 : Int32) (g : AH) : Option (((Int32) ⊕ ((Unit) ⊕ Int32)) × AH) :=
  if 12 < s0 then
  some (.inr (.inl ()), g)
  else
  gb (getR 5 g a0 0) fun x2 => gb (getR 3 g x2 18) fun x4 => gb (aldR 4 g x4 a2) fun x6 => gb (getI 1 g x6 3) fun x8 => if x8 ≤ 0 then
  gb (getR 5 g a0 0) fun x11 => gb (getR 5 g a0 0) fun x13 => gb (isO 3 g x13) fun _ => cb (x3_hoursToDawn x13 g) fun r15 g16 => gb (isO 3 g16 x11) fun _ => cb (x3_passTimeUnwatched x11 r15 g16) fun r20 g21 => some (.inl (s0 + 1), g21)
  else
  some (.inr (.inr s0), g)
def x5_dawnsToDebt (p : Nat) (b0 : Nat) (b1 : Int32) (g : AH) : Option (Int32 × AH) :=
  gb (getR 5 g p 0) fun x1 => gb (isO 3 g x1) fun _ => cb (x3_copyFrom x1 b0 g) fun r3 g4 => cb (loopX (x5_dawnsToDebt_l10 p b1) 1000 0 g4) fun t8 g9 => Sum.elim (fun t11 =>
  some ((-1), g9)) (fun t12 => some (t12, g9)) t8
def x8_dawnsUntilDebt (p : Nat) (b0 : Int32) (g : AH) : Option ((Int32 ⊕ String) × AH) :=
  gb (isO 8 g p) fun _ => cb (x8_demandHiker p b0 g) fun r1 g2 => Sum.elim (fun v6 =>
  gb (getR 8 g2 p 2) fun x8 => gb (getR 8 g2 p 0) fun x10 => gb (isO 5 g2 x8) fun _ => cb (x5_dawnsToDebt x8 x10 b0 g2) fun r12 g13 => some (.inl r12, g13)) (fun w7 => some (.inr w7, g2)) r1
def x5_hoursToNoLogs_l10 (a0 : Nat) (s0 : Int32) (g : AH) : Option (((Int32) ⊕ ((Unit) ⊕ Int32)) × AH) :=
  if 96 < s0 then
  some (.inr (.inl ()), g)
  else
  gb (getR 5 g a0 0) fun x2 => gb (getI 3 g x2 1) fun x4 => if x4 = 0 then
  some (.inr (.inr s0), g)
  else
  gb (getR 5 g a0 0) fun x7 => gb (isO 3 g x7) fun _ => cb (x3_passTimeUnwatched x7 1 g) fun r9 g10 => some (.inl (s0 + 1), g10)
def x5_hoursToNoLogs (p : Nat) (b0 : Nat) (g : AH) : Option (Int32 × AH) :=
  gb (getR 5 g p 0) fun x1 => gb (isO 3 g x1) fun _ => cb (x3_copyFrom x1 b0 g) fun r3 g4 => cb (loopX (x5_hoursToNoLogs_l10 p) 1000 0 g4) fun t8 g9 => Sum.elim (fun t11 =>
  some ((-1), g9)) (fun t12 => some (t12, g9)) t8
def x8_hoursUntilNoLogs (p : Nat) (g : AH) : Option (Int32 × AH) :=
  gb (getR 8 g p 2) fun x1 => gb (getR 8 g p 0) fun x3 => gb (isO 5 g x1) fun _ => cb (x5_hoursToNoLogs x1 x3 g) fun r5 g6 => some (r5, g6)
def x5_hoursToDawnOf (p : Nat) (b0 : Int32) (b1 : Nat) (b2 : Int32) (g : AH) : Option (Int32 × AH) :=
  gb (getR 5 g p 0) fun x1 => gb (isO 3 g x1) fun _ => cb (x3_copyFrom x1 b1 g) fun r3 g4 => gb (getR 5 g4 p 0) fun x8 => gb (putV 3 g4 x8 3 (.int b2)) fun g10 => gb (getR 5 g10 p 0) fun x12 => gb (isO 3 g10 b1) fun _ => cb (x3_hoursToDawn b1 g10) fun r14 g15 => gb (isO 3 g15 x12) fun _ => cb (x3_passTime x12 r14 g15) fun r19 g20 => gb (getR 5 g20 p 0) fun x24 => gb (isO 3 g20 x24) fun _ => cb (x3_sumOfHours x24 b0 g20) fun r26 g27 => gb (isO 3 g27 b1) fun _ => cb (x3_sumOfHours b1 b0 g27) fun r31 g32 => some ((r26 - r31), g32)
def x5_rateWithoutShivers_l2 (a0 : Nat) (a1 : Nat) (s0 : Int32) (g : AH) : Option (((Int32) ⊕ ((Unit) ⊕ Int32)) × AH) :=
  if 3 < s0 then
  some (.inr (.inl ()), g)
  else
  gb (isO 5 g a0) fun _ => cb (x5_hoursToDawnOf a0 0 a1 s0 g) fun r2 g3 => if r2 = 0 then
  some (.inr (.inr s0), g3)
  else
  some (.inl (s0 + 1), g3)
def x5_rateWithoutShivers (p : Nat) (b0 : Nat) (g : AH) : Option (Int32 × AH) :=
  cb (loopX (x5_rateWithoutShivers_l2 p b0) 1000 0 g) fun t1 g2 => Sum.elim (fun t4 =>
  some ((-1), g2)) (fun t5 => some (t5, g2)) t1
def x8_rateNeeded (p : Nat) (g : AH) : Option (Int32 × AH) :=
  gb (getR 8 g p 2) fun x1 => gb (getR 8 g p 0) fun x3 => gb (isO 5 g x1) fun _ => cb (x5_rateWithoutShivers x1 x3 g) fun r5 g6 => some (r5, g6)
def x5_rateForMostSleep_j41_13 (a0 : Nat) (a1 : Nat) (a2 : Int32) (a3 : Int32) (a4 : Int32) (g : AH) : Option (((Int32 × Int32 × Int32) ⊕ (Int32)) × AH) :=
  some (.inl (a2, a3, (a4 + 1)), g)
def x5_rateForMostSleep_l13 (a0 : Nat) (a1 : Nat) (s0 : Int32 × Int32 × Int32) (g : AH) : Option (((Int32 × Int32 × Int32) ⊕ (Int32)) × AH) :=
  if 3 < s0.2.2 then
  some (.inr s0.1, g)
  else
  gb (isO 5 g a0) fun _ => cb (x5_hoursToDawnOf a0 2 a1 s0.2.2 g) fun r2 g3 => if r2 ≤ s0.2.1 then
  x5_rateForMostSleep_j41_13 a0 a1 s0.1 s0.2.1 s0.2.2 g3
  else
  x5_rateForMostSleep_j41_13 a0 a1 s0.2.2 r2 s0.2.2 g3
def x5_rateForMostSleep (p : Nat) (b0 : Nat) (g : AH) : Option (Int32 × AH) :=
  gb (isO 5 g p) fun _ => cb (x5_hoursToDawnOf p 2 b0 0 g) fun r1 g2 => cb (loopX (x5_rateForMostSleep_l13 p b0) 1000 (0, r1, 1) g2) fun t6 g7 =>
  some (t6, g7)
def x8_bestRate (p : Nat) (g : AH) : Option (Int32 × AH) :=
  gb (getR 8 g p 2) fun x1 => gb (getR 8 g p 0) fun x3 => gb (isO 5 g x1) fun _ => cb (x5_rateForMostSleep x1 x3 g) fun r5 g6 => some (r5, g6)
def x8_refuse (b0 : Int32) (g : AH) : Option ((Unit ⊕ String) × AH) :=
  if b0 = 1 then
  some (.inr "java/lang/IndexOutOfBoundsException", hcut g)
  else
  if b0 = 2 then
  some (.inr "java/lang/IllegalArgumentException", hcut g)
  else
  if b0 = 3 then
  some (.inr "java/lang/IllegalStateException", hcut g)
  else
  some (.inl (), g)
def x8_act (p : Nat) (b0 : Int32) (b1 : Int32) (b2 : Int32) (g : AH) : Option ((Int32 ⊕ String) × AH) :=
  gb (getR 8 g p 0) fun x1 => gb (isO 3 g x1) fun _ => cb (x3_faultOf x1 b0 b1 b2 g) fun r3 g4 => cb (x8_refuse r3 g4) fun r8 g9 => Sum.elim (fun v11 =>
  gb (getR 8 g9 p 3) fun x13 => gb (getR 8 g9 p 0) fun x15 => gb (isO 2 g9 x13) fun _ => cb (x2_keep x13 x15 g9) fun r17 g18 => gb (getR 8 g18 p 0) fun x22 => gb (isO 3 g18 x22) fun _ => cb (x3_perform x22 b0 b1 b2 g18) fun r24 g25 => some (.inl r24, g25)) (fun w12 => some (.inr w12, g9)) r8
def x8_takeBlanket (p : Nat) (b0 : Int32) (b1 : Int32) (g : AH) : Option ((Int32 ⊕ String) × AH) :=
  gb (isO 8 g p) fun _ => cb (x8_act p 0 b0 b1 g) fun r1 g2 => Sum.elim (fun v6 =>
  some (.inl v6, g2)) (fun w7 => some (.inr w7, g2)) r1
def x8_returnBlanket (p : Nat) (b0 : Int32) (g : AH) : Option ((Int32 ⊕ String) × AH) :=
  gb (isO 8 g p) fun _ => cb (x8_act p 1 b0 0 g) fun r1 g2 => Sum.elim (fun v6 =>
  some (.inl v6, g2)) (fun w7 => some (.inr w7, g2)) r1
def x8_swapBlankets (p : Nat) (b0 : Int32) (b1 : Int32) (g : AH) : Option ((Int32 ⊕ String) × AH) :=
  gb (isO 8 g p) fun _ => cb (x8_act p 2 b0 b1 g) fun r1 g2 => Sum.elim (fun v6 =>
  some (.inl v6, g2)) (fun w7 => some (.inr w7, g2)) r1
def x8_lieDown (p : Nat) (b0 : Int32) (b1 : Int32) (g : AH) : Option ((Int32 ⊕ String) × AH) :=
  gb (isO 8 g p) fun _ => cb (x8_act p 3 b0 b1 g) fun r1 g2 => Sum.elim (fun v6 =>
  some (.inl v6, g2)) (fun w7 => some (.inr w7, g2)) r1
def x8_getUp (p : Nat) (b0 : Int32) (g : AH) : Option ((Int32 ⊕ String) × AH) :=
  gb (isO 8 g p) fun _ => cb (x8_act p 4 b0 0 g) fun r1 g2 => Sum.elim (fun v6 =>
  some (.inl v6, g2)) (fun w7 => some (.inr w7, g2)) r1
def x8_setRate (p : Nat) (b0 : Int32) (g : AH) : Option ((Int32 ⊕ String) × AH) :=
  gb (isO 8 g p) fun _ => cb (x8_act p 5 b0 0 g) fun r1 g2 => Sum.elim (fun v6 =>
  some (.inl v6, g2)) (fun w7 => some (.inr w7, g2)) r1
set_option maxHeartbeats 4000000 in
set_option maxRecDepth 100000 in
theorem t_x8_bestPlaceFor_b {l : Launch} {G : GG} {M : MC} (X : CX M G cX8_bestPlaceFor 2 RX8 ⟨8, 1, 6, 221⟩) (hl0 : M.2.1 = l) (hr : (mM M).sig.returnType = (some .int)) (hnm : (mM M).name = yX8_bestPlaceFor.name) (hnt : ∀ x ∈ (mC M).exceptionTable.toList, False) (hst : l.stackTraces = false) {p : Nat} {b0 : Int32} {g : AH} {o : (Int32 ⊕ String)} {g1 : AH} (E : x8_bestPlaceFor p b0 g = some (o, g1)) : WW M G 2 (RX M G (ovI o) g1 1 6) 0 0 g 0 [(0, .ref p), (1, .int b0)] [] := by
  unfold x8_bestPlaceFor at E
  refine r_aload_n X 0 dX8_bestPlaceFor_0 rfl rfl ?_
  refine r_iload_n X 1 dX8_bestPlaceFor_1 rfl rfl ?_
  obtain ⟨u4, e5, E⟩ := gb_some E
  obtain ⟨r1, g2, e3, E⟩ := cb_some E
  rcases r1 with v6 | w7
  · rw [Sum.elim_inl] at E
    refine r_callVX X hl0 (ci := 8) dX8_bestPlaceFor_2 y_X8_demandHiker m_X8_181 rfl rfl e5 (t_x8_demandHiker (l := l) hst (G := G) e3) rfl rfl (Nat.le_of_ble_eq_true rfl) (by decide) ?_
    refine r_aload_n X 0 dX8_bestPlaceFor_5 rfl rfl ?_
    obtain ⟨x8, e9, E⟩ := gb_some E
    refine r_getR X dX8_bestPlaceFor_6 f_X8_22 e9 ?_
    refine r_aload_n X 0 dX8_bestPlaceFor_9 rfl rfl ?_
    obtain ⟨x10, e11, E⟩ := gb_some E
    refine r_getR X dX8_bestPlaceFor_10 f_X8_10 e11 ?_
    refine r_iload_n X 1 dX8_bestPlaceFor_13 rfl rfl ?_
    obtain ⟨u15, e16, E⟩ := gb_some E
    obtain ⟨r12, g13, e14, E⟩ := cb_some E
    refine r_callV0 X hl0 (ci := 5) dX8_bestPlaceFor_14 y_X5_placeForMostSleep m_X8_184 rfl rfl e16 (t_x5_placeForMostSleep (l := l) (G := G) e14) rfl rfl (Nat.le_of_ble_eq_true rfl) (by decide) ?_
    cases E
    exact r_ret (r_iret X hr dX8_bestPlaceFor_17 (by decide) (by decide))
  · rw [Sum.elim_inr] at E
    cases E
    exact r_thrV X hl0 hnt (ci := 8) dX8_bestPlaceFor_2 y_X8_demandHiker m_X8_181 rfl rfl e5 (t_x8_demandHiker (l := l) hst (G := G) e3) rfl rfl (Nat.le_of_ble_eq_true rfl) (by decide) (by decide) (by decide)
theorem t_x8_bestPlaceFor {l : Launch} (hst : l.stackTraces = false) {G : GG} {p : Nat} {b0 : Int32} {g : AH} {o : (Int32 ⊕ String)} {g1 : AH} (E : x8_bestPlaceFor p b0 g = some (o, g1)) : CtX l G yX8_bestPlaceFor cX8_bestPlaceFor 2 (some .int) ⟨8, 1, 6, 221⟩ [.ref p, .int b0] g (ovI o) g1 :=
  ctX_of (L0 := [(0, .ref p), (1, .int b0)]) y_X8_bestPlaceFor rfl (Nat.le_of_ble_eq_true rfl) fun M hl0 X hr hnm hnt => t_x8_bestPlaceFor_b X hl0 hr hnm hnt hst E
set_option maxHeartbeats 4000000 in
set_option maxRecDepth 100000 in
theorem t_x8_userOf_b {l : Launch} {G : GG} {M : MC} (X : CX M G cX8_userOf 2 RX8 ⟨7, 1, 6, 200⟩) (hl0 : M.2.1 = l) (hr : (mM M).sig.returnType = (some .int)) (hnm : (mM M).name = yX8_userOf.name) (hnt : ∀ x ∈ (mC M).exceptionTable.toList, False) (hst : l.stackTraces = false) {p : Nat} {b0 : Int32} {g : AH} {o : (Int32 ⊕ String)} {g1 : AH} (E : x8_userOf p b0 g = some (o, g1)) : WW M G 2 (RX M G (ovI o) g1 1 6) 0 0 g 0 [(0, .ref p), (1, .int b0)] [] := by
  unfold x8_userOf at E
  refine r_aload_n X 0 dX8_userOf_0 rfl rfl ?_
  obtain ⟨x1, e2, E⟩ := gb_some E
  refine r_getR X dX8_userOf_1 f_X8_10 e2 ?_
  refine r_iload_n X 1 dX8_userOf_4 rfl rfl ?_
  obtain ⟨u6, e7, E⟩ := gb_some E
  obtain ⟨r3, g4, e5, E⟩ := cb_some E
  refine r_callV0 X hl0 (ci := 3) dX8_userOf_5 y_X3_hasBlanket m_X8_201 rfl rfl e7 (t_x3_hasBlanket (l := l) (G := G) e5) rfl rfl (Nat.le_of_ble_eq_true rfl) (by decide) ?_
  refine r_if_ne X 21 dX8_userOf_8 (by decide) (fun c8 => ?_) (fun c8 => ?_)
  · rw [if_neg c8] at E
    refine r_aload_n X 0 dX8_userOf_21 rfl rfl ?_
    obtain ⟨x9, e10, E⟩ := gb_some E
    refine r_getR X dX8_userOf_22 f_X8_10 e10 ?_
    refine r_iload_n X 1 dX8_userOf_25 rfl rfl ?_
    obtain ⟨u14, e15, E⟩ := gb_some E
    obtain ⟨r11, g12, e13, E⟩ := cb_some E
    refine r_callV0 X hl0 (ci := 3) dX8_userOf_26 y_X3_userOfBlanket m_X8_206 rfl rfl e15 (t_x3_userOfBlanket (l := l) (G := G) e13) rfl rfl (Nat.le_of_ble_eq_true rfl) (by decide) ?_
    cases E
    exact r_ret (r_iret X hr dX8_userOf_29 (by decide) (by decide))
  · rw [if_pos c8] at E
    cases E
    exact r_throw X hl0 hst hnt th_X8_195 k_X8_191 (List.mem_of_getElem? (i := 5) rfl) dX8_userOf_11 dX8_userOf_14 dX8_userOf_15 dX8_userOf_17 dX8_userOf_20 ⟨by decide, Nat.le_of_ble_eq_true rfl⟩ (by decide) (by decide)
theorem t_x8_userOf {l : Launch} (hst : l.stackTraces = false) {G : GG} {p : Nat} {b0 : Int32} {g : AH} {o : (Int32 ⊕ String)} {g1 : AH} (E : x8_userOf p b0 g = some (o, g1)) : CtX l G yX8_userOf cX8_userOf 2 (some .int) ⟨7, 1, 6, 200⟩ [.ref p, .int b0] g (ovI o) g1 :=
  ctX_of (L0 := [(0, .ref p), (1, .int b0)]) y_X8_userOf rfl (Nat.le_of_ble_eq_true rfl) fun M hl0 X hr hnm hnt => t_x8_userOf_b X hl0 hr hnm hnt hst E
set_option maxHeartbeats 4000000 in
set_option maxRecDepth 100000 in
theorem t_x3_pileRankOf_j71_4 {l : Launch} {G : GG} {M : MC} (X : CX M G cX3_pileRankOf 5 RX3 ⟨2, 0, 0, 82⟩) (hl0 : M.2.1 = l) (hr : (mM M).sig.returnType = (some .int)) (hnm : (mM M).name = yX3_pileRankOf.name) {Q : State → Prop} {kc ks : Nat} {s9 : ((Int32 × Int32) ⊕ (Int32))} {g1 : AH} {a0 : Nat} {a1 : Int32} {a2 : Int32} {a3 : Int32} (hc : ∀ s1, s9 = .inl s1 → WW M G 5 Q kc ks g1 4 [(0, .ref a0), (1, .int a1), (2, .int s1.1), (3, .int s1.2)] []) (hx : ∀ t, s9 = .inr t → WW M G 5 Q kc ks g1 77 [(2, .int t)] []) {g : AH} (E : x3_pileRankOf_j71_4 a0 a1 a2 a3 g = some (s9, g1)) : WW M G 5 Q kc ks g 71 [(0, .ref a0), (1, .int a1), (2, .int a2), (3, .int a3)] [] := by
  unfold x3_pileRankOf_j71_4 at E
  refine r_iinc X (v := (a3 + 1)) (L1 := [(3, .int (a3 + 1)), (0, .ref a0), (1, .int a1), (2, .int a2)]) dX3_pileRankOf_71 rfl rfl (by decide) rfl ?_
  refine r_goto X 4 dX3_pileRankOf_74 (by decide) ?_
  cases E
  exact r_pick (by rfl : lpick [(3, .int (a3 + 1)), (0, .ref a0), (1, .int a1), (2, .int a2)] [1, 2, 3, 0] = _) (hc _ rfl)
set_option maxHeartbeats 4000000 in
set_option maxRecDepth 100000 in
theorem t_x3_pileRankOf_j52_4 {l : Launch} {G : GG} {M : MC} (X : CX M G cX3_pileRankOf 5 RX3 ⟨2, 0, 0, 82⟩) (hl0 : M.2.1 = l) (hr : (mM M).sig.returnType = (some .int)) (hnm : (mM M).name = yX3_pileRankOf.name) {Q : State → Prop} {kc ks : Nat} {s9 : ((Int32 × Int32) ⊕ (Int32))} {g1 : AH} {a0 : Nat} {a1 : Int32} {a2 : Int32} {a3 : Int32} {s0 : Int32} (hc : ∀ s1, s9 = .inl s1 → WW M G 5 Q kc ks g1 4 [(0, .ref a0), (1, .int a1), (2, .int s1.1), (3, .int s1.2)] []) (hx : ∀ t, s9 = .inr t → WW M G 5 Q kc ks g1 77 [(2, .int t)] []) {g : AH} (E : x3_pileRankOf_j52_4 a0 a1 a2 a3 s0 g = some (s9, g1)) : WW M G 5 Q kc ks g 52 [(0, .ref a0), (1, .int a1), (2, .int a2), (3, .int a3)] [.int s0] := by
  unfold x3_pileRankOf_j52_4 at E
  refine r_istore X (L1 := [(4, .int s0), (0, .ref a0), (1, .int a1), (2, .int a2), (3, .int a3)]) dX3_pileRankOf_52 (by decide) rfl ?_
  refine r_iload X dX3_pileRankOf_54 rfl ?_
  refine r_if_eq X 71 dX3_pileRankOf_56 (by decide) (fun c1 => ?_) (fun c1 => ?_)
  · rw [if_pos c1] at E
    exact r_pick (by rfl : lpick [(4, .int s0), (0, .ref a0), (1, .int a1), (2, .int a2), (3, .int a3)] [1, 2, 3, 4] = _) (t_x3_pileRankOf_j71_4 X hl0 hr hnm hc hx E)
  · rw [if_neg c1] at E
    refine r_aload_n X 0 dX3_pileRankOf_59 rfl rfl ?_
    refine r_iload_n X 3 dX3_pileRankOf_60 rfl rfl ?_
    obtain ⟨u5, e6, E⟩ := gb_some E
    obtain ⟨r2, g3, e4, E⟩ := cb_some E
    refine r_callV0 X hl0 (ci := 3) dX3_pileRankOf_61 y_X3_userOfBlanket m_X3_143 rfl rfl e6 (t_x3_userOfBlanket (l := l) (G := G) e4) rfl rfl (Nat.le_of_ble_eq_true rfl) (by decide) ?_
    refine r_iconst X (v := (-1)) dX3_pileRankOf_64 (by decide) ?_
    refine r_icmp_ne X 71 dX3_pileRankOf_65 (by decide) (fun c7 => ?_) (fun c7 => ?_)
    · rw [if_neg c7] at E
      exact r_pick (by rfl : lpick [(4, .int s0), (0, .ref a0), (1, .int a1), (2, .int a2), (3, .int a3)] [1, 2, 3, 4] = _) (t_x3_pileRankOf_j71_4 X hl0 hr hnm hc hx E)
    · rw [if_pos c7] at E
      refine r_iinc X (v := (a2 + 1)) (L1 := [(2, .int (a2 + 1)), (4, .int s0), (0, .ref a0), (1, .int a1), (3, .int a3)]) dX3_pileRankOf_68 rfl rfl (by decide) rfl ?_
      exact r_pick (by rfl : lpick [(2, .int (a2 + 1)), (4, .int s0), (0, .ref a0), (1, .int a1), (3, .int a3)] [2, 3, 0, 4] = _) (t_x3_pileRankOf_j71_4 X hl0 hr hnm hc hx E)
set_option maxHeartbeats 4000000 in
set_option maxRecDepth 100000 in
theorem t_x3_pileRankOf_j47_4 {l : Launch} {G : GG} {M : MC} (X : CX M G cX3_pileRankOf 5 RX3 ⟨2, 0, 0, 82⟩) (hl0 : M.2.1 = l) (hr : (mM M).sig.returnType = (some .int)) (hnm : (mM M).name = yX3_pileRankOf.name) {Q : State → Prop} {kc ks : Nat} {s9 : ((Int32 × Int32) ⊕ (Int32))} {g1 : AH} {a0 : Nat} {a1 : Int32} {a2 : Int32} {a3 : Int32} (hc : ∀ s1, s9 = .inl s1 → WW M G 5 Q kc ks g1 4 [(0, .ref a0), (1, .int a1), (2, .int s1.1), (3, .int s1.2)] []) (hx : ∀ t, s9 = .inr t → WW M G 5 Q kc ks g1 77 [(2, .int t)] []) {g : AH} (E : x3_pileRankOf_j47_4 a0 a1 a2 a3 g = some (s9, g1)) : WW M G 5 Q kc ks g 47 [(0, .ref a0), (1, .int a1), (2, .int a2), (3, .int a3)] [] := by
  unfold x3_pileRankOf_j47_4 at E
  refine r_iconst X (v := 1) dX3_pileRankOf_47 (by decide) ?_
  refine r_goto X 52 dX3_pileRankOf_48 (by decide) ?_
  exact r_pick (by rfl : lpick [(0, .ref a0), (1, .int a1), (2, .int a2), (3, .int a3)] [0, 1, 2, 3] = _) (t_x3_pileRankOf_j52_4 X hl0 hr hnm hc hx E)
set_option maxHeartbeats 4000000 in
set_option maxRecDepth 100000 in
theorem t_x3_pileRankOf_j51_4 {l : Launch} {G : GG} {M : MC} (X : CX M G cX3_pileRankOf 5 RX3 ⟨2, 0, 0, 82⟩) (hl0 : M.2.1 = l) (hr : (mM M).sig.returnType = (some .int)) (hnm : (mM M).name = yX3_pileRankOf.name) {Q : State → Prop} {kc ks : Nat} {s9 : ((Int32 × Int32) ⊕ (Int32))} {g1 : AH} {a0 : Nat} {a1 : Int32} {a2 : Int32} {a3 : Int32} (hc : ∀ s1, s9 = .inl s1 → WW M G 5 Q kc ks g1 4 [(0, .ref a0), (1, .int a1), (2, .int s1.1), (3, .int s1.2)] []) (hx : ∀ t, s9 = .inr t → WW M G 5 Q kc ks g1 77 [(2, .int t)] []) {g : AH} (E : x3_pileRankOf_j51_4 a0 a1 a2 a3 g = some (s9, g1)) : WW M G 5 Q kc ks g 51 [(0, .ref a0), (1, .int a1), (2, .int a2), (3, .int a3)] [] := by
  unfold x3_pileRankOf_j51_4 at E
  refine r_iconst X (v := 0) dX3_pileRankOf_51 (by decide) ?_
  exact r_pick (by rfl : lpick [(0, .ref a0), (1, .int a1), (2, .int a2), (3, .int a3)] [0, 1, 2, 3] = _) (t_x3_pileRankOf_j52_4 X hl0 hr hnm hc hx E)
set_option maxHeartbeats 4000000 in
set_option maxRecDepth 100000 in
theorem t_x3_pileRankOf_l4 {l : Launch} {G : GG} {M : MC} (X : CX M G cX3_pileRankOf 5 RX3 ⟨2, 0, 0, 82⟩) (hl0 : M.2.1 = l) (hr : (mM M).sig.returnType = (some .int)) (hnm : (mM M).name = yX3_pileRankOf.name) {Q : State → Prop} {kc ks : Nat} {s9 : ((Int32 × Int32) ⊕ (Int32))} {g1 : AH} {a0 : Nat} {a1 : Int32} {s0 : Int32 × Int32} (hc : ∀ s1, s9 = .inl s1 → WW M G 5 Q kc ks g1 4 [(0, .ref a0), (1, .int a1), (2, .int s1.1), (3, .int s1.2)] []) (hx : ∀ t, s9 = .inr t → WW M G 5 Q kc ks g1 77 [(2, .int t)] []) {g : AH} (E : x3_pileRankOf_l4 a0 a1 s0 g = some (s9, g1)) : WW M G 5 Q kc ks g 4 [(0, .ref a0), (1, .int a1), (2, .int s0.1), (3, .int s0.2)] [] := by
  unfold x3_pileRankOf_l4 at E
  refine r_iload_n X 3 dX3_pileRankOf_4 rfl rfl ?_
  refine r_aload_n X 0 dX3_pileRankOf_5 rfl rfl ?_
  obtain ⟨x1, e2, E⟩ := gb_some E
  refine r_getI X dX3_pileRankOf_6 f_X3_72 e2 ?_
  refine r_icmp_ge X 77 dX3_pileRankOf_9 (by decide) (fun c3 => ?_) (fun c3 => ?_)
  · rw [if_pos c3] at E
    cases E
    exact r_pick (by rfl : lpick [(0, .ref a0), (1, .int a1), (2, .int s0.1), (3, .int s0.2)] [2] = _) (hx _ rfl)
  · rw [if_neg c3] at E
    refine r_aload_n X 0 dX3_pileRankOf_12 rfl rfl ?_
    obtain ⟨x4, e5, E⟩ := gb_some E
    refine r_getR X dX3_pileRankOf_13 f_X3_15 e5 ?_
    refine r_iload_n X 3 dX3_pileRankOf_16 rfl rfl ?_
    obtain ⟨x6, e7, E⟩ := gb_some E
    refine r_iald X dX3_pileRankOf_17 e7 ?_
    refine r_aload_n X 0 dX3_pileRankOf_18 rfl rfl ?_
    obtain ⟨x8, e9, E⟩ := gb_some E
    refine r_getR X dX3_pileRankOf_19 f_X3_15 e9 ?_
    refine r_iload_n X 1 dX3_pileRankOf_22 rfl rfl ?_
    obtain ⟨x10, e11, E⟩ := gb_some E
    refine r_iald X dX3_pileRankOf_23 e11 ?_
    refine r_icmp_gt X 47 dX3_pileRankOf_24 (by decide) (fun c12 => ?_) (fun c12 => ?_)
    · rw [if_pos c12] at E
      exact r_pick (by rfl : lpick [(0, .ref a0), (1, .int a1), (2, .int s0.1), (3, .int s0.2)] [0, 1, 2, 3] = _) (t_x3_pileRankOf_j47_4 X hl0 hr hnm hc hx E)
    · rw [if_neg c12] at E
      refine r_aload_n X 0 dX3_pileRankOf_27 rfl rfl ?_
      obtain ⟨x13, e14, E⟩ := gb_some E
      refine r_getR X dX3_pileRankOf_28 f_X3_15 e14 ?_
      refine r_iload_n X 3 dX3_pileRankOf_31 rfl rfl ?_
      obtain ⟨x15, e16, E⟩ := gb_some E
      refine r_iald X dX3_pileRankOf_32 e16 ?_
      refine r_aload_n X 0 dX3_pileRankOf_33 rfl rfl ?_
      obtain ⟨x17, e18, E⟩ := gb_some E
      refine r_getR X dX3_pileRankOf_34 f_X3_15 e18 ?_
      refine r_iload_n X 1 dX3_pileRankOf_37 rfl rfl ?_
      obtain ⟨x19, e20, E⟩ := gb_some E
      refine r_iald X dX3_pileRankOf_38 e20 ?_
      refine r_icmp_ne X 51 dX3_pileRankOf_39 (by decide) (fun c21 => ?_) (fun c21 => ?_)
      · rw [if_neg c21] at E
        exact r_pick (by rfl : lpick [(0, .ref a0), (1, .int a1), (2, .int s0.1), (3, .int s0.2)] [0, 1, 2, 3] = _) (t_x3_pileRankOf_j51_4 X hl0 hr hnm hc hx E)
      · rw [if_pos c21] at E
        refine r_iload_n X 3 dX3_pileRankOf_42 rfl rfl ?_
        refine r_iload_n X 1 dX3_pileRankOf_43 rfl rfl ?_
        refine r_icmp_ge X 51 dX3_pileRankOf_44 (by decide) (fun c22 => ?_) (fun c22 => ?_)
        · rw [if_pos c22] at E
          exact r_pick (by rfl : lpick [(0, .ref a0), (1, .int a1), (2, .int s0.1), (3, .int s0.2)] [0, 1, 2, 3] = _) (t_x3_pileRankOf_j51_4 X hl0 hr hnm hc hx E)
        · rw [if_neg c22] at E
          exact r_pick (by rfl : lpick [(0, .ref a0), (1, .int a1), (2, .int s0.1), (3, .int s0.2)] [0, 1, 2, 3] = _) (t_x3_pileRankOf_j47_4 X hl0 hr hnm hc hx E)
set_option maxHeartbeats 4000000 in
theorem t_x3_pileRankOf_l4_r {l : Launch} {G : GG} {M : MC} (X : CX M G cX3_pileRankOf 5 RX3 ⟨2, 0, 0, 82⟩) (hl0 : M.2.1 = l) (hr : (mM M).sig.returnType = (some .int)) (hnm : (mM M).name = yX3_pileRankOf.name) {Q : State → Prop} {kc ks : Nat} {a0 : Nat} {a1 : Int32} : ∀ (n : Nat) (s0 : Int32 × Int32) (g : AH) (t : (Int32)) (g1 : AH), loopX (x3_pileRankOf_l4 a0 a1) n s0 g = some (t, g1) → WW M G 5 Q kc ks g1 77 [(2, .int t)] [] → WW M G 5 Q kc ks g 4 [(0, .ref a0), (1, .int a1), (2, .int s0.1), (3, .int s0.2)] [] :=
  loop_cps (K := fun t g1 => WW M G 5 Q kc ks g1 77 [(2, .int t)] []) (fun _ s0 g => WW M G 5 Q kc ks g 4 [(0, .ref a0), (1, .int a1), (2, .int s0.1), (3, .int s0.2)] []) (fun n s0 g st g1 E hc hx => t_x3_pileRankOf_l4 X hl0 hr hnm hc hx E)
set_option maxHeartbeats 4000000 in
set_option maxRecDepth 100000 in
theorem t_x3_pileRankOf_b {l : Launch} {G : GG} {M : MC} (X : CX M G cX3_pileRankOf 5 RX3 ⟨2, 0, 0, 82⟩) (hl0 : M.2.1 = l) (hr : (mM M).sig.returnType = (some .int)) (hnm : (mM M).name = yX3_pileRankOf.name) {p : Nat} {b0 : Int32} {g : AH} {r : Int32} {g1 : AH} (E : x3_pileRankOf p b0 g = some (r, g1)) : WW M G 5 (RQ M G (some (.int r)) g1 0 0) 0 0 g 0 [(0, .ref p), (1, .int b0)] [] := by
  unfold x3_pileRankOf at E
  refine r_iconst X (v := 0) dX3_pileRankOf_0 (by decide) ?_
  refine r_istore_n X 2 (L1 := [(2, .int 0), (0, .ref p), (1, .int b0)]) dX3_pileRankOf_1 rfl (by decide) rfl ?_
  refine r_iconst X (v := 0) dX3_pileRankOf_2 (by decide) ?_
  refine r_istore_n X 3 (L1 := [(3, .int 0), (2, .int 0), (0, .ref p), (1, .int b0)]) dX3_pileRankOf_3 rfl (by decide) rfl ?_
  obtain ⟨t1, g2, e3, E⟩ := cb_some E
  refine r_pick (by rfl : lpick [(3, .int 0), (2, .int 0), (0, .ref p), (1, .int b0)] [2, 3, 1, 0] = _) (t_x3_pileRankOf_l4_r X hl0 hr hnm _ _ _ _ _ e3 ?_)
  refine r_iload_n X 2 dX3_pileRankOf_77 rfl rfl ?_
  cases E
  exact r_iret X hr dX3_pileRankOf_78 (by decide) (by decide)
theorem t_x3_pileRankOf {l : Launch} {G : GG} {p : Nat} {b0 : Int32} {g : AH} {r : Int32} {g1 : AH} (E : x3_pileRankOf p b0 g = some (r, g1)) : Ct l G yX3_pileRankOf cX3_pileRankOf 5 (some .int) ⟨2, 0, 0, 82⟩ [.ref p, .int b0] g (some (.int r)) g1 :=
  ct_of (L0 := [(0, .ref p), (1, .int b0)]) y_X3_pileRankOf rfl (Nat.le_of_ble_eq_true rfl) fun M hl0 X hr hnm => t_x3_pileRankOf_b X hl0 hr hnm E
set_option maxHeartbeats 4000000 in
set_option maxRecDepth 100000 in
theorem t_x3_blanketAtRank_j30_2 {l : Launch} {G : GG} {M : MC} (X : CX M G cX3_blanketAtRank 3 RX3 ⟨3, 0, 0, 106⟩) (hl0 : M.2.1 = l) (hr : (mM M).sig.returnType = (some .int)) (hnm : (mM M).name = yX3_blanketAtRank.name) {Q : State → Prop} {kc ks : Nat} {s9 : ((Int32) ⊕ ((Unit) ⊕ Int32))} {g1 : AH} {a0 : Nat} {a1 : Int32} {a2 : Int32} (hc : ∀ s1, s9 = .inl s1 → WW M G 3 Q kc ks g1 2 [(0, .ref a0), (1, .int a1), (2, .int s1)] []) (hx : ∀ t, s9 = .inr t → Sum.elim (fun t1 => WW M G 3 Q kc ks g1 36 [] []) (fun t2 => ∃ mc ms : Nat, kc ≤ mc ∧ ks ≤ ms ∧ Q = RQ M G (some (.int t2)) g1 mc ms) t) {g : AH} (E : x3_blanketAtRank_j30_2 a0 a1 a2 g = some (s9, g1)) : WW M G 3 Q kc ks g 30 [(0, .ref a0), (1, .int a1), (2, .int a2)] [] := by
  unfold x3_blanketAtRank_j30_2 at E
  refine r_iinc X (v := (a2 + 1)) (L1 := [(2, .int (a2 + 1)), (0, .ref a0), (1, .int a1)]) dX3_blanketAtRank_30 rfl rfl (by decide) rfl ?_
  refine r_goto X 2 dX3_blanketAtRank_33 (by decide) ?_
  cases E
  exact r_pick (by rfl : lpick [(2, .int (a2 + 1)), (0, .ref a0), (1, .int a1)] [1, 2, 0] = _) (hc _ rfl)
set_option maxHeartbeats 4000000 in
set_option maxRecDepth 100000 in
theorem t_x3_blanketAtRank_l2 {l : Launch} {G : GG} {M : MC} (X : CX M G cX3_blanketAtRank 3 RX3 ⟨3, 0, 0, 106⟩) (hl0 : M.2.1 = l) (hr : (mM M).sig.returnType = (some .int)) (hnm : (mM M).name = yX3_blanketAtRank.name) {Q : State → Prop} {kc ks : Nat} {s9 : ((Int32) ⊕ ((Unit) ⊕ Int32))} {g1 : AH} {a0 : Nat} {a1 : Int32} {s0 : Int32} (hc : ∀ s1, s9 = .inl s1 → WW M G 3 Q kc ks g1 2 [(0, .ref a0), (1, .int a1), (2, .int s1)] []) (hx : ∀ t, s9 = .inr t → Sum.elim (fun t1 => WW M G 3 Q kc ks g1 36 [] []) (fun t2 => ∃ mc ms : Nat, kc ≤ mc ∧ ks ≤ ms ∧ Q = RQ M G (some (.int t2)) g1 mc ms) t) {g : AH} (E : x3_blanketAtRank_l2 a0 a1 s0 g = some (s9, g1)) : WW M G 3 Q kc ks g 2 [(0, .ref a0), (1, .int a1), (2, .int s0)] [] := by
  unfold x3_blanketAtRank_l2 at E
  refine r_iload_n X 2 dX3_blanketAtRank_2 rfl rfl ?_
  refine r_aload_n X 0 dX3_blanketAtRank_3 rfl rfl ?_
  obtain ⟨x1, e2, E⟩ := gb_some E
  refine r_getI X dX3_blanketAtRank_4 f_X3_72 e2 ?_
  refine r_icmp_ge X 36 dX3_blanketAtRank_7 (by decide) (fun c3 => ?_) (fun c3 => ?_)
  · rw [if_pos c3] at E
    cases E
    exact r_pick (by rfl : lpick [(0, .ref a0), (1, .int a1), (2, .int s0)] [] = _) (hx _ rfl)
  · rw [if_neg c3] at E
    refine r_aload_n X 0 dX3_blanketAtRank_10 rfl rfl ?_
    refine r_iload_n X 2 dX3_blanketAtRank_11 rfl rfl ?_
    obtain ⟨u7, e8, E⟩ := gb_some E
    obtain ⟨r4, g5, e6, E⟩ := cb_some E
    refine r_callV0 X hl0 (ci := 3) dX3_blanketAtRank_12 y_X3_userOfBlanket m_X3_143 rfl rfl e8 (t_x3_userOfBlanket (l := l) (G := G) e6) rfl rfl (Nat.le_of_ble_eq_true rfl) (by decide) ?_
    refine r_iconst X (v := (-1)) dX3_blanketAtRank_15 (by decide) ?_
    refine r_icmp_ne X 30 dX3_blanketAtRank_16 (by decide) (fun c9 => ?_) (fun c9 => ?_)
    · rw [if_neg c9] at E
      exact r_pick (by rfl : lpick [(0, .ref a0), (1, .int a1), (2, .int s0)] [0, 1, 2] = _) (t_x3_blanketAtRank_j30_2 X hl0 hr hnm hc hx E)
    · rw [if_pos c9] at E
      refine r_aload_n X 0 dX3_blanketAtRank_19 rfl rfl ?_
      refine r_iload_n X 2 dX3_blanketAtRank_20 rfl rfl ?_
      obtain ⟨u13, e14, E⟩ := gb_some E
      obtain ⟨r10, g11, e12, E⟩ := cb_some E
      refine r_callV0 X hl0 (ci := 3) dX3_blanketAtRank_21 y_X3_pileRankOf m_X3_146 rfl rfl e14 (t_x3_pileRankOf (l := l) (G := G) e12) rfl rfl (Nat.le_of_ble_eq_true rfl) (by decide) ?_
      refine r_iload_n X 1 dX3_blanketAtRank_24 rfl rfl ?_
      refine r_icmp_ne X 30 dX3_blanketAtRank_25 (by decide) (fun c15 => ?_) (fun c15 => ?_)
      · rw [if_neg c15] at E
        exact r_pick (by rfl : lpick [(0, .ref a0), (1, .int a1), (2, .int s0)] [0, 1, 2] = _) (t_x3_blanketAtRank_j30_2 X hl0 hr hnm hc hx E)
      · rw [if_pos c15] at E
        refine r_iload_n X 2 dX3_blanketAtRank_28 rfl rfl ?_
        cases E
        obtain ⟨mc9, ms9, h91, h92, rfl⟩ := hx _ rfl
        exact r_iret X hr dX3_blanketAtRank_29 h91 h92
set_option maxHeartbeats 4000000 in
theorem t_x3_blanketAtRank_l2_r {l : Launch} {G : GG} {M : MC} (X : CX M G cX3_blanketAtRank 3 RX3 ⟨3, 0, 0, 106⟩) (hl0 : M.2.1 = l) (hr : (mM M).sig.returnType = (some .int)) (hnm : (mM M).name = yX3_blanketAtRank.name) {Q : State → Prop} {kc ks : Nat} {a0 : Nat} {a1 : Int32} : ∀ (n : Nat) (s0 : Int32) (g : AH) (t : ((Unit) ⊕ Int32)) (g1 : AH), loopX (x3_blanketAtRank_l2 a0 a1) n s0 g = some (t, g1) → Sum.elim (fun t1 => WW M G 3 Q kc ks g1 36 [] []) (fun t2 => ∃ mc ms : Nat, kc ≤ mc ∧ ks ≤ ms ∧ Q = RQ M G (some (.int t2)) g1 mc ms) t → WW M G 3 Q kc ks g 2 [(0, .ref a0), (1, .int a1), (2, .int s0)] [] :=
  loop_cps (K := fun t g1 => Sum.elim (fun t1 => WW M G 3 Q kc ks g1 36 [] []) (fun t2 => ∃ mc ms : Nat, kc ≤ mc ∧ ks ≤ ms ∧ Q = RQ M G (some (.int t2)) g1 mc ms) t) (fun _ s0 g => WW M G 3 Q kc ks g 2 [(0, .ref a0), (1, .int a1), (2, .int s0)] []) (fun n s0 g st g1 E hc hx => t_x3_blanketAtRank_l2 X hl0 hr hnm hc hx E)
set_option maxHeartbeats 4000000 in
set_option maxRecDepth 100000 in
theorem t_x3_blanketAtRank_b {l : Launch} {G : GG} {M : MC} (X : CX M G cX3_blanketAtRank 3 RX3 ⟨3, 0, 0, 106⟩) (hl0 : M.2.1 = l) (hr : (mM M).sig.returnType = (some .int)) (hnm : (mM M).name = yX3_blanketAtRank.name) {p : Nat} {b0 : Int32} {g : AH} {r : Int32} {g1 : AH} (E : x3_blanketAtRank p b0 g = some (r, g1)) : WW M G 3 (RQ M G (some (.int r)) g1 0 0) 0 0 g 0 [(0, .ref p), (1, .int b0)] [] := by
  unfold x3_blanketAtRank at E
  refine r_iconst X (v := 0) dX3_blanketAtRank_0 (by decide) ?_
  refine r_istore_n X 2 (L1 := [(2, .int 0), (0, .ref p), (1, .int b0)]) dX3_blanketAtRank_1 rfl (by decide) rfl ?_
  obtain ⟨t1, g2, e3, E⟩ := cb_some E
  rcases t1 with t4 | t5
  · rw [Sum.elim_inl] at E
    refine r_pick (by rfl : lpick [(2, .int 0), (0, .ref p), (1, .int b0)] [1, 2, 0] = _) (t_x3_blanketAtRank_l2_r X hl0 hr hnm _ _ _ _ _ e3 ?_)
    refine r_iconst X (v := (-1)) dX3_blanketAtRank_36 (by decide) ?_
    cases E
    exact r_iret X hr dX3_blanketAtRank_37 (by decide) (by decide)
  · rw [Sum.elim_inr] at E
    cases E
    exact r_pick (by rfl : lpick [(2, .int 0), (0, .ref p), (1, .int b0)] [1, 2, 0] = _) (t_x3_blanketAtRank_l2_r X hl0 hr hnm _ _ _ _ _ e3 ⟨_, _, by decide, by decide, rfl⟩)
theorem t_x3_blanketAtRank {l : Launch} {G : GG} {p : Nat} {b0 : Int32} {g : AH} {r : Int32} {g1 : AH} (E : x3_blanketAtRank p b0 g = some (r, g1)) : Ct l G yX3_blanketAtRank cX3_blanketAtRank 3 (some .int) ⟨3, 0, 0, 106⟩ [.ref p, .int b0] g (some (.int r)) g1 :=
  ct_of (L0 := [(0, .ref p), (1, .int b0)]) y_X3_blanketAtRank rfl (Nat.le_of_ble_eq_true rfl) fun M hl0 X hr hnm => t_x3_blanketAtRank_b X hl0 hr hnm E
set_option maxHeartbeats 4000000 in
set_option maxRecDepth 100000 in
theorem t_x8_blanketOnPile_b {l : Launch} {G : GG} {M : MC} (X : CX M G cX8_blanketOnPile 3 RX8 ⟨7, 1, 6, 200⟩) (hl0 : M.2.1 = l) (hr : (mM M).sig.returnType = (some .int)) (hnm : (mM M).name = yX8_blanketOnPile.name) (hnt : ∀ x ∈ (mC M).exceptionTable.toList, False) (hst : l.stackTraces = false) {p : Nat} {b0 : Int32} {g : AH} {o : (Int32 ⊕ String)} {g1 : AH} (E : x8_blanketOnPile p b0 g = some (o, g1)) : WW M G 3 (RX M G (ovI o) g1 1 6) 0 0 g 0 [(0, .ref p), (1, .int b0)] [] := by
  unfold x8_blanketOnPile at E
  refine r_aload_n X 0 dX8_blanketOnPile_0 rfl rfl ?_
  obtain ⟨x1, e2, E⟩ := gb_some E
  refine r_getR X dX8_blanketOnPile_1 f_X8_10 e2 ?_
  refine r_iload_n X 1 dX8_blanketOnPile_4 rfl rfl ?_
  obtain ⟨u6, e7, E⟩ := gb_some E
  obtain ⟨r3, g4, e5, E⟩ := cb_some E
  refine r_callV0 X hl0 (ci := 3) dX8_blanketOnPile_5 y_X3_blanketAtRank m_X8_209 rfl rfl e7 (t_x3_blanketAtRank (l := l) (G := G) e5) rfl rfl (Nat.le_of_ble_eq_true rfl) (by decide) ?_
  refine r_istore_n X 2 (L1 := [(2, .int r3), (0, .ref p), (1, .int b0)]) dX8_blanketOnPile_8 rfl (by decide) rfl ?_
  refine r_iload_n X 2 dX8_blanketOnPile_9 rfl rfl ?_
  refine r_iconst X (v := (-1)) dX8_blanketOnPile_10 (by decide) ?_
  refine r_icmp_ne X 24 dX8_blanketOnPile_11 (by decide) (fun c8 => ?_) (fun c8 => ?_)
  · rw [if_neg c8] at E
    refine r_iload_n X 2 dX8_blanketOnPile_24 rfl rfl ?_
    cases E
    exact r_ret (r_iret X hr dX8_blanketOnPile_25 (by decide) (by decide))
  · rw [if_pos c8] at E
    cases E
    exact r_throwN X hl0 hst hnt th_X8_216 k_X8_212 (List.mem_of_getElem? (i := 6) rfl) dX8_blanketOnPile_14 dX8_blanketOnPile_17 dX8_blanketOnPile_18 dX8_blanketOnPile_20 dX8_blanketOnPile_23 ⟨by decide, Nat.le_of_ble_eq_true rfl⟩ (by decide) (by decide)
theorem t_x8_blanketOnPile {l : Launch} (hst : l.stackTraces = false) {G : GG} {p : Nat} {b0 : Int32} {g : AH} {o : (Int32 ⊕ String)} {g1 : AH} (E : x8_blanketOnPile p b0 g = some (o, g1)) : CtX l G yX8_blanketOnPile cX8_blanketOnPile 3 (some .int) ⟨7, 1, 6, 200⟩ [.ref p, .int b0] g (ovI o) g1 :=
  ctX_of (L0 := [(0, .ref p), (1, .int b0)]) y_X8_blanketOnPile rfl (Nat.le_of_ble_eq_true rfl) fun M hl0 X hr hnm hnt => t_x8_blanketOnPile_b X hl0 hr hnm hnt hst E
set_option maxHeartbeats 4000000 in
set_option maxRecDepth 100000 in
theorem t_x3_blanketsOnPile_b {l : Launch} {G : GG} {M : MC} (X : CX M G cX3_blanketsOnPile 1 RX3 ⟨2, 0, 0, 82⟩) (hl0 : M.2.1 = l) (hr : (mM M).sig.returnType = (some .int)) (hnm : (mM M).name = yX3_blanketsOnPile.name) {p : Nat} {g : AH} {r : Int32} {g1 : AH} (E : x3_blanketsOnPile p g = some (r, g1)) : WW M G 1 (RQ M G (some (.int r)) g1 0 0) 0 0 g 0 [(0, .ref p)] [] := by
  unfold x3_blanketsOnPile at E
  refine r_aload_n X 0 dX3_blanketsOnPile_0 rfl rfl ?_
  obtain ⟨x1, e2, E⟩ := gb_some E
  refine r_getI X dX3_blanketsOnPile_1 f_X3_72 e2 ?_
  refine r_aload_n X 0 dX3_blanketsOnPile_4 rfl rfl ?_
  obtain ⟨x3, e4, E⟩ := gb_some E
  refine r_getI X dX3_blanketsOnPile_5 f_X3_78 e4 ?_
  refine r_aload_n X 0 dX3_blanketsOnPile_8 rfl rfl ?_
  obtain ⟨u8, e9, E⟩ := gb_some E
  obtain ⟨r5, g6, e7, E⟩ := cb_some E
  refine r_callV0 X hl0 (ci := 3) dX3_blanketsOnPile_9 y_X3_hikersWithoutBlanket m_X3_140 rfl rfl e9 (t_x3_hikersWithoutBlanket (l := l) (G := G) e7) rfl rfl (Nat.le_of_ble_eq_true rfl) (by decide) ?_
  refine r_isub X dX3_blanketsOnPile_12 ?_
  refine r_isub X dX3_blanketsOnPile_13 ?_
  cases E
  exact r_iret X hr dX3_blanketsOnPile_14 (by decide) (by decide)
theorem t_x3_blanketsOnPile {l : Launch} {G : GG} {p : Nat} {g : AH} {r : Int32} {g1 : AH} (E : x3_blanketsOnPile p g = some (r, g1)) : Ct l G yX3_blanketsOnPile cX3_blanketsOnPile 1 (some .int) ⟨2, 0, 0, 82⟩ [.ref p] g (some (.int r)) g1 :=
  ct_of (L0 := [(0, .ref p)]) y_X3_blanketsOnPile rfl (Nat.le_of_ble_eq_true rfl) fun M hl0 X hr hnm => t_x3_blanketsOnPile_b X hl0 hr hnm E
set_option maxHeartbeats 4000000 in
set_option maxRecDepth 100000 in
theorem t_x8_pileSize_b {l : Launch} {G : GG} {M : MC} (X : CX M G cX8_pileSize 1 RX8 ⟨3, 0, 0, 102⟩) (hl0 : M.2.1 = l) (hr : (mM M).sig.returnType = (some .int)) (hnm : (mM M).name = yX8_pileSize.name) {p : Nat} {g : AH} {r : Int32} {g1 : AH} (E : x8_pileSize p g = some (r, g1)) : WW M G 1 (RQ M G (some (.int r)) g1 0 0) 0 0 g 0 [(0, .ref p)] [] := by
  unfold x8_pileSize at E
  refine r_aload_n X 0 dX8_pileSize_0 rfl rfl ?_
  obtain ⟨x1, e2, E⟩ := gb_some E
  refine r_getR X dX8_pileSize_1 f_X8_10 e2 ?_
  obtain ⟨u6, e7, E⟩ := gb_some E
  obtain ⟨r3, g4, e5, E⟩ := cb_some E
  refine r_callV0 X hl0 (ci := 3) dX8_pileSize_4 y_X3_blanketsOnPile m_X8_217 rfl rfl e7 (t_x3_blanketsOnPile (l := l) (G := G) e5) rfl rfl (Nat.le_of_ble_eq_true rfl) (by decide) ?_
  cases E
  exact r_iret X hr dX8_pileSize_7 (by decide) (by decide)
theorem t_x8_pileSize {l : Launch} {G : GG} {p : Nat} {g : AH} {r : Int32} {g1 : AH} (E : x8_pileSize p g = some (r, g1)) : Ct l G yX8_pileSize cX8_pileSize 1 (some .int) ⟨3, 0, 0, 102⟩ [.ref p] g (some (.int r)) g1 :=
  ct_of (L0 := [(0, .ref p)]) y_X8_pileSize rfl (Nat.le_of_ble_eq_true rfl) fun M hl0 X hr hnm => t_x8_pileSize_b X hl0 hr hnm E
set_option maxHeartbeats 4000000 in
set_option maxRecDepth 100000 in
theorem t_x1_lack_b {l : Launch} {G : GG} {M : MC} (X : CX M G cX1_lack 1 RX1 ⟨1, 0, 0, 60⟩) (hl0 : M.2.1 = l) (hr : (mM M).sig.returnType = (some .int)) (hnm : (mM M).name = yX1_lack.name) {p : Nat} {g : AH} {r : Int32} {g1 : AH} (E : x1_lack p g = some (r, g1)) : WW M G 1 (RQ M G (some (.int r)) g1 0 0) 0 0 g 0 [(0, .ref p)] [] := by
  unfold x1_lack at E
  refine r_aload_n X 0 dX1_lack_0 rfl rfl ?_
  obtain ⟨x1, e2, E⟩ := gb_some E
  refine r_getI X dX1_lack_1 f_X1_22 e2 ?_
  refine r_aload_n X 0 dX1_lack_4 rfl rfl ?_
  obtain ⟨x3, e4, E⟩ := gb_some E
  refine r_getI X dX1_lack_5 f_X1_37 e4 ?_
  refine r_aload_n X 0 dX1_lack_8 rfl rfl ?_
  obtain ⟨x5, e6, E⟩ := gb_some E
  refine r_getI X dX1_lack_9 f_X1_34 e6 ?_
  refine r_isub X dX1_lack_12 ?_
  refine r_isub X dX1_lack_13 ?_
  cases E
  exact r_iret X hr dX1_lack_14 (by decide) (by decide)
theorem t_x1_lack {l : Launch} {G : GG} {p : Nat} {g : AH} {r : Int32} {g1 : AH} (E : x1_lack p g = some (r, g1)) : Ct l G yX1_lack cX1_lack 1 (some .int) ⟨1, 0, 0, 60⟩ [.ref p] g (some (.int r)) g1 :=
  ct_of (L0 := [(0, .ref p)]) y_X1_lack rfl (Nat.le_of_ble_eq_true rfl) fun M hl0 X hr hnm => t_x1_lack_b X hl0 hr hnm E
set_option maxHeartbeats 4000000 in
set_option maxRecDepth 100000 in
theorem t_x3_thinnestFitting_j69_15 {l : Launch} {G : GG} {M : MC} (X : CX M G cX3_thinnestFitting 5 RX3 ⟨2, 0, 0, 82⟩) (hl0 : M.2.1 = l) (hr : (mM M).sig.returnType = (some .int)) (hnm : (mM M).name = yX3_thinnestFitting.name) {Q : State → Prop} {kc ks : Nat} {s9 : ((Int32 × Int32) ⊕ (Int32))} {g1 : AH} {a0 : Nat} {a2 : Int32} {a3 : Int32} {a4 : Int32} (hc : ∀ s1, s9 = .inl s1 → WW M G 5 Q kc ks g1 15 [(0, .ref a0), (2, .int a2), (3, .int s1.1), (4, .int s1.2)] []) (hx : ∀ t, s9 = .inr t → WW M G 5 Q kc ks g1 75 [(3, .int t)] []) {g : AH} (E : x3_thinnestFitting_j69_15 a0 a2 a3 a4 g = some (s9, g1)) : WW M G 5 Q kc ks g 69 [(0, .ref a0), (2, .int a2), (3, .int a3), (4, .int a4)] [] := by
  unfold x3_thinnestFitting_j69_15 at E
  refine r_iinc X (v := (a4 + 1)) (L1 := [(4, .int (a4 + 1)), (0, .ref a0), (2, .int a2), (3, .int a3)]) dX3_thinnestFitting_69 rfl rfl (by decide) rfl ?_
  refine r_goto X 15 dX3_thinnestFitting_72 (by decide) ?_
  cases E
  exact r_pick (by rfl : lpick [(4, .int (a4 + 1)), (0, .ref a0), (2, .int a2), (3, .int a3)] [1, 2, 3, 0] = _) (hc _ rfl)
set_option maxHeartbeats 4000000 in
set_option maxRecDepth 100000 in
theorem t_x3_thinnestFitting_j66_15 {l : Launch} {G : GG} {M : MC} (X : CX M G cX3_thinnestFitting 5 RX3 ⟨2, 0, 0, 82⟩) (hl0 : M.2.1 = l) (hr : (mM M).sig.returnType = (some .int)) (hnm : (mM M).name = yX3_thinnestFitting.name) {Q : State → Prop} {kc ks : Nat} {s9 : ((Int32 × Int32) ⊕ (Int32))} {g1 : AH} {a0 : Nat} {a2 : Int32} {a4 : Int32} (hc : ∀ s1, s9 = .inl s1 → WW M G 5 Q kc ks g1 15 [(0, .ref a0), (2, .int a2), (3, .int s1.1), (4, .int s1.2)] []) (hx : ∀ t, s9 = .inr t → WW M G 5 Q kc ks g1 75 [(3, .int t)] []) {g : AH} (E : x3_thinnestFitting_j66_15 a0 a2 a4 g = some (s9, g1)) : WW M G 5 Q kc ks g 66 [(0, .ref a0), (2, .int a2), (4, .int a4)] [] := by
  unfold x3_thinnestFitting_j66_15 at E
  refine r_iload X dX3_thinnestFitting_66 rfl ?_
  refine r_istore_n X 3 (L1 := [(3, .int a4), (0, .ref a0), (2, .int a2), (4, .int a4)]) dX3_thinnestFitting_68 rfl (by decide) rfl ?_
  exact r_pick (by rfl : lpick [(3, .int a4), (0, .ref a0), (2, .int a2), (4, .int a4)] [1, 2, 0, 3] = _) (t_x3_thinnestFitting_j69_15 X hl0 hr hnm hc hx E)
set_option maxHeartbeats 4000000 in
set_option maxRecDepth 100000 in
theorem t_x3_thinnestFitting_l15 {l : Launch} {G : GG} {M : MC} (X : CX M G cX3_thinnestFitting 5 RX3 ⟨2, 0, 0, 82⟩) (hl0 : M.2.1 = l) (hr : (mM M).sig.returnType = (some .int)) (hnm : (mM M).name = yX3_thinnestFitting.name) {Q : State → Prop} {kc ks : Nat} {s9 : ((Int32 × Int32) ⊕ (Int32))} {g1 : AH} {a0 : Nat} {a2 : Int32} {s0 : Int32 × Int32} (hc : ∀ s1, s9 = .inl s1 → WW M G 5 Q kc ks g1 15 [(0, .ref a0), (2, .int a2), (3, .int s1.1), (4, .int s1.2)] []) (hx : ∀ t, s9 = .inr t → WW M G 5 Q kc ks g1 75 [(3, .int t)] []) {g : AH} (E : x3_thinnestFitting_l15 a0 a2 s0 g = some (s9, g1)) : WW M G 5 Q kc ks g 15 [(0, .ref a0), (2, .int a2), (3, .int s0.1), (4, .int s0.2)] [] := by
  unfold x3_thinnestFitting_l15 at E
  refine r_iload X dX3_thinnestFitting_15 rfl ?_
  refine r_aload_n X 0 dX3_thinnestFitting_17 rfl rfl ?_
  obtain ⟨x1, e2, E⟩ := gb_some E
  refine r_getI X dX3_thinnestFitting_18 f_X3_72 e2 ?_
  refine r_icmp_ge X 75 dX3_thinnestFitting_21 (by decide) (fun c3 => ?_) (fun c3 => ?_)
  · rw [if_pos c3] at E
    cases E
    exact r_pick (by rfl : lpick [(0, .ref a0), (2, .int a2), (3, .int s0.1), (4, .int s0.2)] [2] = _) (hx _ rfl)
  · rw [if_neg c3] at E
    refine r_aload_n X 0 dX3_thinnestFitting_24 rfl rfl ?_
    obtain ⟨x4, e5, E⟩ := gb_some E
    refine r_getR X dX3_thinnestFitting_25 f_X3_15 e5 ?_
    refine r_iload X dX3_thinnestFitting_28 rfl ?_
    obtain ⟨x6, e7, E⟩ := gb_some E
    refine r_iald X dX3_thinnestFitting_30 e7 ?_
    refine r_iload_n X 2 dX3_thinnestFitting_31 rfl rfl ?_
    refine r_icmp_lt X 69 dX3_thinnestFitting_32 (by decide) (fun c8 => ?_) (fun c8 => ?_)
    · rw [if_pos c8] at E
      exact r_pick (by rfl : lpick [(0, .ref a0), (2, .int a2), (3, .int s0.1), (4, .int s0.2)] [0, 1, 2, 3] = _) (t_x3_thinnestFitting_j69_15 X hl0 hr hnm hc hx E)
    · rw [if_neg c8] at E
      refine r_aload_n X 0 dX3_thinnestFitting_35 rfl rfl ?_
      refine r_iload X dX3_thinnestFitting_36 rfl ?_
      obtain ⟨u12, e13, E⟩ := gb_some E
      obtain ⟨r9, g10, e11, E⟩ := cb_some E
      refine r_callV0 X hl0 (ci := 3) dX3_thinnestFitting_38 y_X3_userOfBlanket m_X3_143 rfl rfl e13 (t_x3_userOfBlanket (l := l) (G := G) e11) rfl rfl (Nat.le_of_ble_eq_true rfl) (by decide) ?_
      refine r_iconst X (v := (-1)) dX3_thinnestFitting_41 (by decide) ?_
      refine r_icmp_ne X 69 dX3_thinnestFitting_42 (by decide) (fun c14 => ?_) (fun c14 => ?_)
      · rw [if_neg c14] at E
        exact r_pick (by rfl : lpick [(0, .ref a0), (2, .int a2), (3, .int s0.1), (4, .int s0.2)] [0, 1, 2, 3] = _) (t_x3_thinnestFitting_j69_15 X hl0 hr hnm hc hx E)
      · rw [if_pos c14] at E
        refine r_iload_n X 3 dX3_thinnestFitting_45 rfl rfl ?_
        refine r_iconst X (v := (-1)) dX3_thinnestFitting_46 (by decide) ?_
        refine r_icmp_eq X 66 dX3_thinnestFitting_47 (by decide) (fun c15 => ?_) (fun c15 => ?_)
        · rw [if_pos c15] at E
          exact r_pick (by rfl : lpick [(0, .ref a0), (2, .int a2), (3, .int s0.1), (4, .int s0.2)] [0, 1, 3] = _) (t_x3_thinnestFitting_j66_15 X hl0 hr hnm hc hx E)
        · rw [if_neg c15] at E
          refine r_aload_n X 0 dX3_thinnestFitting_50 rfl rfl ?_
          obtain ⟨x16, e17, E⟩ := gb_some E
          refine r_getR X dX3_thinnestFitting_51 f_X3_15 e17 ?_
          refine r_iload X dX3_thinnestFitting_54 rfl ?_
          obtain ⟨x18, e19, E⟩ := gb_some E
          refine r_iald X dX3_thinnestFitting_56 e19 ?_
          refine r_aload_n X 0 dX3_thinnestFitting_57 rfl rfl ?_
          obtain ⟨x20, e21, E⟩ := gb_some E
          refine r_getR X dX3_thinnestFitting_58 f_X3_15 e21 ?_
          refine r_iload_n X 3 dX3_thinnestFitting_61 rfl rfl ?_
          obtain ⟨x22, e23, E⟩ := gb_some E
          refine r_iald X dX3_thinnestFitting_62 e23 ?_
          refine r_icmp_ge X 69 dX3_thinnestFitting_63 (by decide) (fun c24 => ?_) (fun c24 => ?_)
          · rw [if_pos c24] at E
            exact r_pick (by rfl : lpick [(0, .ref a0), (2, .int a2), (3, .int s0.1), (4, .int s0.2)] [0, 1, 2, 3] = _) (t_x3_thinnestFitting_j69_15 X hl0 hr hnm hc hx E)
          · rw [if_neg c24] at E
            exact r_pick (by rfl : lpick [(0, .ref a0), (2, .int a2), (3, .int s0.1), (4, .int s0.2)] [0, 1, 3] = _) (t_x3_thinnestFitting_j66_15 X hl0 hr hnm hc hx E)
set_option maxHeartbeats 4000000 in
theorem t_x3_thinnestFitting_l15_r {l : Launch} {G : GG} {M : MC} (X : CX M G cX3_thinnestFitting 5 RX3 ⟨2, 0, 0, 82⟩) (hl0 : M.2.1 = l) (hr : (mM M).sig.returnType = (some .int)) (hnm : (mM M).name = yX3_thinnestFitting.name) {Q : State → Prop} {kc ks : Nat} {a0 : Nat} {a2 : Int32} : ∀ (n : Nat) (s0 : Int32 × Int32) (g : AH) (t : (Int32)) (g1 : AH), loopX (x3_thinnestFitting_l15 a0 a2) n s0 g = some (t, g1) → WW M G 5 Q kc ks g1 75 [(3, .int t)] [] → WW M G 5 Q kc ks g 15 [(0, .ref a0), (2, .int a2), (3, .int s0.1), (4, .int s0.2)] [] :=
  loop_cps (K := fun t g1 => WW M G 5 Q kc ks g1 75 [(3, .int t)] []) (fun _ s0 g => WW M G 5 Q kc ks g 15 [(0, .ref a0), (2, .int a2), (3, .int s0.1), (4, .int s0.2)] []) (fun n s0 g st g1 E hc hx => t_x3_thinnestFitting_l15 X hl0 hr hnm hc hx E)
set_option maxHeartbeats 4000000 in
set_option maxRecDepth 100000 in
theorem t_x3_thinnestFitting_b {l : Launch} {G : GG} {M : MC} (X : CX M G cX3_thinnestFitting 5 RX3 ⟨2, 0, 0, 82⟩) (hl0 : M.2.1 = l) (hr : (mM M).sig.returnType = (some .int)) (hnm : (mM M).name = yX3_thinnestFitting.name) {p : Nat} {b0 : Int32} {g : AH} {r : Int32} {g1 : AH} (E : x3_thinnestFitting p b0 g = some (r, g1)) : WW M G 5 (RQ M G (some (.int r)) g1 0 0) 0 0 g 0 [(0, .ref p), (1, .int b0)] [] := by
  unfold x3_thinnestFitting at E
  refine r_aload_n X 0 dX3_thinnestFitting_0 rfl rfl ?_
  obtain ⟨x1, e2, E⟩ := gb_some E
  refine r_getR X dX3_thinnestFitting_1 f_X3_29 e2 ?_
  refine r_iload_n X 1 dX3_thinnestFitting_4 rfl rfl ?_
  obtain ⟨x3, e4, E⟩ := gb_some E
  refine r_aald X 4 (by decide) rfl dX3_thinnestFitting_5 e4 ?_
  obtain ⟨u8, e9, E⟩ := gb_some E
  obtain ⟨r5, g6, e7, E⟩ := cb_some E
  refine r_callV0 X hl0 (ci := 1) dX3_thinnestFitting_6 y_X1_lack m_X3_149 rfl rfl e9 (t_x1_lack (l := l) (G := G) e7) rfl rfl (Nat.le_of_ble_eq_true rfl) (by decide) ?_
  refine r_istore_n X 2 (L1 := [(2, .int r5), (0, .ref p), (1, .int b0)]) dX3_thinnestFitting_9 rfl (by decide) rfl ?_
  refine r_iconst X (v := (-1)) dX3_thinnestFitting_10 (by decide) ?_
  refine r_istore_n X 3 (L1 := [(3, .int (-1)), (2, .int r5), (0, .ref p), (1, .int b0)]) dX3_thinnestFitting_11 rfl (by decide) rfl ?_
  refine r_iconst X (v := 0) dX3_thinnestFitting_12 (by decide) ?_
  refine r_istore X (L1 := [(4, .int 0), (3, .int (-1)), (2, .int r5), (0, .ref p), (1, .int b0)]) dX3_thinnestFitting_13 (by decide) rfl ?_
  obtain ⟨t10, g11, e12, E⟩ := cb_some E
  refine r_pick (by rfl : lpick [(4, .int 0), (3, .int (-1)), (2, .int r5), (0, .ref p), (1, .int b0)] [3, 2, 1, 0] = _) (t_x3_thinnestFitting_l15_r X hl0 hr hnm _ _ _ _ _ e12 ?_)
  refine r_iload_n X 3 dX3_thinnestFitting_75 rfl rfl ?_
  cases E
  exact r_iret X hr dX3_thinnestFitting_76 (by decide) (by decide)
theorem t_x3_thinnestFitting {l : Launch} {G : GG} {p : Nat} {b0 : Int32} {g : AH} {r : Int32} {g1 : AH} (E : x3_thinnestFitting p b0 g = some (r, g1)) : Ct l G yX3_thinnestFitting cX3_thinnestFitting 5 (some .int) ⟨2, 0, 0, 82⟩ [.ref p, .int b0] g (some (.int r)) g1 :=
  ct_of (L0 := [(0, .ref p), (1, .int b0)]) y_X3_thinnestFitting rfl (Nat.le_of_ble_eq_true rfl) fun M hl0 X hr hnm => t_x3_thinnestFitting_b X hl0 hr hnm E
set_option maxHeartbeats 4000000 in
set_option maxRecDepth 100000 in
theorem t_x8_fittingBlanket_b {l : Launch} {G : GG} {M : MC} (X : CX M G cX8_fittingBlanket 2 RX8 ⟨8, 1, 6, 221⟩) (hl0 : M.2.1 = l) (hr : (mM M).sig.returnType = (some .int)) (hnm : (mM M).name = yX8_fittingBlanket.name) (hnt : ∀ x ∈ (mC M).exceptionTable.toList, False) (hst : l.stackTraces = false) {p : Nat} {b0 : Int32} {g : AH} {o : (Int32 ⊕ String)} {g1 : AH} (E : x8_fittingBlanket p b0 g = some (o, g1)) : WW M G 2 (RX M G (ovI o) g1 1 6) 0 0 g 0 [(0, .ref p), (1, .int b0)] [] := by
  unfold x8_fittingBlanket at E
  refine r_aload_n X 0 dX8_fittingBlanket_0 rfl rfl ?_
  refine r_iload_n X 1 dX8_fittingBlanket_1 rfl rfl ?_
  obtain ⟨u4, e5, E⟩ := gb_some E
  obtain ⟨r1, g2, e3, E⟩ := cb_some E
  rcases r1 with v6 | w7
  · rw [Sum.elim_inl] at E
    refine r_callVX X hl0 (ci := 8) dX8_fittingBlanket_2 y_X8_demandHiker m_X8_181 rfl rfl e5 (t_x8_demandHiker (l := l) hst (G := G) e3) rfl rfl (Nat.le_of_ble_eq_true rfl) (by decide) ?_
    refine r_aload_n X 0 dX8_fittingBlanket_5 rfl rfl ?_
    obtain ⟨x8, e9, E⟩ := gb_some E
    refine r_getR X dX8_fittingBlanket_6 f_X8_10 e9 ?_
    refine r_iload_n X 1 dX8_fittingBlanket_9 rfl rfl ?_
    obtain ⟨u13, e14, E⟩ := gb_some E
    obtain ⟨r10, g11, e12, E⟩ := cb_some E
    refine r_callV0 X hl0 (ci := 3) dX8_fittingBlanket_10 y_X3_thinnestFitting m_X8_220 rfl rfl e14 (t_x3_thinnestFitting (l := l) (G := G) e12) rfl rfl (Nat.le_of_ble_eq_true rfl) (by decide) ?_
    cases E
    exact r_ret (r_iret X hr dX8_fittingBlanket_13 (by decide) (by decide))
  · rw [Sum.elim_inr] at E
    cases E
    exact r_thrV X hl0 hnt (ci := 8) dX8_fittingBlanket_2 y_X8_demandHiker m_X8_181 rfl rfl e5 (t_x8_demandHiker (l := l) hst (G := G) e3) rfl rfl (Nat.le_of_ble_eq_true rfl) (by decide) (by decide) (by decide)
theorem t_x8_fittingBlanket {l : Launch} (hst : l.stackTraces = false) {G : GG} {p : Nat} {b0 : Int32} {g : AH} {o : (Int32 ⊕ String)} {g1 : AH} (E : x8_fittingBlanket p b0 g = some (o, g1)) : CtX l G yX8_fittingBlanket cX8_fittingBlanket 2 (some .int) ⟨8, 1, 6, 221⟩ [.ref p, .int b0] g (ovI o) g1 :=
  ctX_of (L0 := [(0, .ref p), (1, .int b0)]) y_X8_fittingBlanket rfl (Nat.le_of_ble_eq_true rfl) fun M hl0 X hr hnm hnt => t_x8_fittingBlanket_b X hl0 hr hnm hnt hst E
set_option maxHeartbeats 4000000 in
set_option maxRecDepth 100000 in
theorem t_x8_hikerCount_b {l : Launch} {G : GG} {M : MC} (X : CX M G cX8_hikerCount 1 RX8 ⟨1, 0, 0, 60⟩) (hl0 : M.2.1 = l) (hr : (mM M).sig.returnType = (some .int)) (hnm : (mM M).name = yX8_hikerCount.name) {p : Nat} {g : AH} {r : Int32} {g1 : AH} (E : x8_hikerCount p g = some (r, g1)) : WW M G 1 (RQ M G (some (.int r)) g1 0 0) 0 0 g 0 [(0, .ref p)] [] := by
  unfold x8_hikerCount at E
  refine r_aload_n X 0 dX8_hikerCount_0 rfl rfl ?_
  obtain ⟨x1, e2, E⟩ := gb_some E
  refine r_getR X dX8_hikerCount_1 f_X8_10 e2 ?_
  obtain ⟨x3, e4, E⟩ := gb_some E
  refine r_getI X dX8_hikerCount_4 f_X8_116 e4 ?_
  cases E
  exact r_iret X hr dX8_hikerCount_7 (by decide) (by decide)
theorem t_x8_hikerCount {l : Launch} {G : GG} {p : Nat} {g : AH} {r : Int32} {g1 : AH} (E : x8_hikerCount p g = some (r, g1)) : Ct l G yX8_hikerCount cX8_hikerCount 1 (some .int) ⟨1, 0, 0, 60⟩ [.ref p] g (some (.int r)) g1 :=
  ct_of (L0 := [(0, .ref p)]) y_X8_hikerCount rfl (Nat.le_of_ble_eq_true rfl) fun M hl0 X hr hnm => t_x8_hikerCount_b X hl0 hr hnm E
set_option maxHeartbeats 4000000 in
set_option maxRecDepth 100000 in
theorem t_x8_bunkOf_b {l : Launch} {G : GG} {M : MC} (X : CX M G cX8_bunkOf 2 RX8 ⟨8, 1, 6, 221⟩) (hl0 : M.2.1 = l) (hr : (mM M).sig.returnType = (some .int)) (hnm : (mM M).name = yX8_bunkOf.name) (hnt : ∀ x ∈ (mC M).exceptionTable.toList, False) (hst : l.stackTraces = false) {p : Nat} {b0 : Int32} {g : AH} {o : (Int32 ⊕ String)} {g1 : AH} (E : x8_bunkOf p b0 g = some (o, g1)) : WW M G 2 (RX M G (ovI o) g1 1 6) 0 0 g 0 [(0, .ref p), (1, .int b0)] [] := by
  unfold x8_bunkOf at E
  refine r_aload_n X 0 dX8_bunkOf_0 rfl rfl ?_
  refine r_iload_n X 1 dX8_bunkOf_1 rfl rfl ?_
  obtain ⟨u4, e5, E⟩ := gb_some E
  obtain ⟨r1, g2, e3, E⟩ := cb_some E
  rcases r1 with v6 | w7
  · rw [Sum.elim_inl] at E
    refine r_callVX X hl0 (ci := 8) dX8_bunkOf_2 y_X8_demandHiker m_X8_181 rfl rfl e5 (t_x8_demandHiker (l := l) hst (G := G) e3) rfl rfl (Nat.le_of_ble_eq_true rfl) (by decide) ?_
    refine r_aload_n X 0 dX8_bunkOf_5 rfl rfl ?_
    obtain ⟨x8, e9, E⟩ := gb_some E
    refine r_getR X dX8_bunkOf_6 f_X8_10 e9 ?_
    obtain ⟨x10, e11, E⟩ := gb_some E
    refine r_getR X dX8_bunkOf_9 f_X8_223 e11 ?_
    refine r_iload_n X 1 dX8_bunkOf_12 rfl rfl ?_
    obtain ⟨x12, e13, E⟩ := gb_some E
    refine r_aald X 4 (by decide) rfl dX8_bunkOf_13 e13 ?_
    obtain ⟨x14, e15, E⟩ := gb_some E
    refine r_getI X dX8_bunkOf_14 f_X8_227 e15 ?_
    cases E
    exact r_ret (r_iret X hr dX8_bunkOf_17 (by decide) (by decide))
  · rw [Sum.elim_inr] at E
    cases E
    exact r_thrV X hl0 hnt (ci := 8) dX8_bunkOf_2 y_X8_demandHiker m_X8_181 rfl rfl e5 (t_x8_demandHiker (l := l) hst (G := G) e3) rfl rfl (Nat.le_of_ble_eq_true rfl) (by decide) (by decide) (by decide)
theorem t_x8_bunkOf {l : Launch} (hst : l.stackTraces = false) {G : GG} {p : Nat} {b0 : Int32} {g : AH} {o : (Int32 ⊕ String)} {g1 : AH} (E : x8_bunkOf p b0 g = some (o, g1)) : CtX l G yX8_bunkOf cX8_bunkOf 2 (some .int) ⟨8, 1, 6, 221⟩ [.ref p, .int b0] g (ovI o) g1 :=
  ctX_of (L0 := [(0, .ref p), (1, .int b0)]) y_X8_bunkOf rfl (Nat.le_of_ble_eq_true rfl) fun M hl0 X hr hnm hnt => t_x8_bunkOf_b X hl0 hr hnm hnt hst E
set_option maxHeartbeats 4000000 in
set_option maxRecDepth 100000 in
theorem t_x8_blanketOf_b {l : Launch} {G : GG} {M : MC} (X : CX M G cX8_blanketOf 2 RX8 ⟨8, 1, 6, 221⟩) (hl0 : M.2.1 = l) (hr : (mM M).sig.returnType = (some .int)) (hnm : (mM M).name = yX8_blanketOf.name) (hnt : ∀ x ∈ (mC M).exceptionTable.toList, False) (hst : l.stackTraces = false) {p : Nat} {b0 : Int32} {g : AH} {o : (Int32 ⊕ String)} {g1 : AH} (E : x8_blanketOf p b0 g = some (o, g1)) : WW M G 2 (RX M G (ovI o) g1 1 6) 0 0 g 0 [(0, .ref p), (1, .int b0)] [] := by
  unfold x8_blanketOf at E
  refine r_aload_n X 0 dX8_blanketOf_0 rfl rfl ?_
  refine r_iload_n X 1 dX8_blanketOf_1 rfl rfl ?_
  obtain ⟨u4, e5, E⟩ := gb_some E
  obtain ⟨r1, g2, e3, E⟩ := cb_some E
  rcases r1 with v6 | w7
  · rw [Sum.elim_inl] at E
    refine r_callVX X hl0 (ci := 8) dX8_blanketOf_2 y_X8_demandHiker m_X8_181 rfl rfl e5 (t_x8_demandHiker (l := l) hst (G := G) e3) rfl rfl (Nat.le_of_ble_eq_true rfl) (by decide) ?_
    refine r_aload_n X 0 dX8_blanketOf_5 rfl rfl ?_
    obtain ⟨x8, e9, E⟩ := gb_some E
    refine r_getR X dX8_blanketOf_6 f_X8_10 e9 ?_
    obtain ⟨x10, e11, E⟩ := gb_some E
    refine r_getR X dX8_blanketOf_9 f_X8_223 e11 ?_
    refine r_iload_n X 1 dX8_blanketOf_12 rfl rfl ?_
    obtain ⟨x12, e13, E⟩ := gb_some E
    refine r_aald X 4 (by decide) rfl dX8_blanketOf_13 e13 ?_
    obtain ⟨x14, e15, E⟩ := gb_some E
    refine r_getI X dX8_blanketOf_14 f_X8_232 e15 ?_
    cases E
    exact r_ret (r_iret X hr dX8_blanketOf_17 (by decide) (by decide))
  · rw [Sum.elim_inr] at E
    cases E
    exact r_thrV X hl0 hnt (ci := 8) dX8_blanketOf_2 y_X8_demandHiker m_X8_181 rfl rfl e5 (t_x8_demandHiker (l := l) hst (G := G) e3) rfl rfl (Nat.le_of_ble_eq_true rfl) (by decide) (by decide) (by decide)
theorem t_x8_blanketOf {l : Launch} (hst : l.stackTraces = false) {G : GG} {p : Nat} {b0 : Int32} {g : AH} {o : (Int32 ⊕ String)} {g1 : AH} (E : x8_blanketOf p b0 g = some (o, g1)) : CtX l G yX8_blanketOf cX8_blanketOf 2 (some .int) ⟨8, 1, 6, 221⟩ [.ref p, .int b0] g (ovI o) g1 :=
  ctX_of (L0 := [(0, .ref p), (1, .int b0)]) y_X8_blanketOf rfl (Nat.le_of_ble_eq_true rfl) fun M hl0 X hr hnm hnt => t_x8_blanketOf_b X hl0 hr hnm hnt hst E
set_option maxHeartbeats 4000000 in
set_option maxRecDepth 100000 in
theorem t_x8_warmth_b {l : Launch} {G : GG} {M : MC} (X : CX M G cX8_warmth 2 RX8 ⟨8, 1, 6, 221⟩) (hl0 : M.2.1 = l) (hr : (mM M).sig.returnType = (some .int)) (hnm : (mM M).name = yX8_warmth.name) (hnt : ∀ x ∈ (mC M).exceptionTable.toList, False) (hst : l.stackTraces = false) {p : Nat} {b0 : Int32} {g : AH} {o : (Int32 ⊕ String)} {g1 : AH} (E : x8_warmth p b0 g = some (o, g1)) : WW M G 2 (RX M G (ovI o) g1 1 6) 0 0 g 0 [(0, .ref p), (1, .int b0)] [] := by
  unfold x8_warmth at E
  refine r_aload_n X 0 dX8_warmth_0 rfl rfl ?_
  refine r_iload_n X 1 dX8_warmth_1 rfl rfl ?_
  obtain ⟨u4, e5, E⟩ := gb_some E
  obtain ⟨r1, g2, e3, E⟩ := cb_some E
  rcases r1 with v6 | w7
  · rw [Sum.elim_inl] at E
    refine r_callVX X hl0 (ci := 8) dX8_warmth_2 y_X8_demandHiker m_X8_181 rfl rfl e5 (t_x8_demandHiker (l := l) hst (G := G) e3) rfl rfl (Nat.le_of_ble_eq_true rfl) (by decide) ?_
    refine r_aload_n X 0 dX8_warmth_5 rfl rfl ?_
    obtain ⟨x8, e9, E⟩ := gb_some E
    refine r_getR X dX8_warmth_6 f_X8_10 e9 ?_
    obtain ⟨x10, e11, E⟩ := gb_some E
    refine r_getR X dX8_warmth_9 f_X8_223 e11 ?_
    refine r_iload_n X 1 dX8_warmth_12 rfl rfl ?_
    obtain ⟨x12, e13, E⟩ := gb_some E
    refine r_aald X 4 (by decide) rfl dX8_warmth_13 e13 ?_
    obtain ⟨x14, e15, E⟩ := gb_some E
    refine r_getI X dX8_warmth_14 f_X8_235 e15 ?_
    cases E
    exact r_ret (r_iret X hr dX8_warmth_17 (by decide) (by decide))
  · rw [Sum.elim_inr] at E
    cases E
    exact r_thrV X hl0 hnt (ci := 8) dX8_warmth_2 y_X8_demandHiker m_X8_181 rfl rfl e5 (t_x8_demandHiker (l := l) hst (G := G) e3) rfl rfl (Nat.le_of_ble_eq_true rfl) (by decide) (by decide) (by decide)
theorem t_x8_warmth {l : Launch} (hst : l.stackTraces = false) {G : GG} {p : Nat} {b0 : Int32} {g : AH} {o : (Int32 ⊕ String)} {g1 : AH} (E : x8_warmth p b0 g = some (o, g1)) : CtX l G yX8_warmth cX8_warmth 2 (some .int) ⟨8, 1, 6, 221⟩ [.ref p, .int b0] g (ovI o) g1 :=
  ctX_of (L0 := [(0, .ref p), (1, .int b0)]) y_X8_warmth rfl (Nat.le_of_ble_eq_true rfl) fun M hl0 X hr hnm hnt => t_x8_warmth_b X hl0 hr hnm hnt hst E
set_option maxHeartbeats 4000000 in
set_option maxRecDepth 100000 in
theorem t_x8_activity_b {l : Launch} {G : GG} {M : MC} (X : CX M G cX8_activity 2 RX8 ⟨8, 1, 6, 221⟩) (hl0 : M.2.1 = l) (hr : (mM M).sig.returnType = (some .int)) (hnm : (mM M).name = yX8_activity.name) (hnt : ∀ x ∈ (mC M).exceptionTable.toList, False) (hst : l.stackTraces = false) {p : Nat} {b0 : Int32} {g : AH} {o : (Int32 ⊕ String)} {g1 : AH} (E : x8_activity p b0 g = some (o, g1)) : WW M G 2 (RX M G (ovI o) g1 1 6) 0 0 g 0 [(0, .ref p), (1, .int b0)] [] := by
  unfold x8_activity at E
  refine r_aload_n X 0 dX8_activity_0 rfl rfl ?_
  refine r_iload_n X 1 dX8_activity_1 rfl rfl ?_
  obtain ⟨u4, e5, E⟩ := gb_some E
  obtain ⟨r1, g2, e3, E⟩ := cb_some E
  rcases r1 with v6 | w7
  · rw [Sum.elim_inl] at E
    refine r_callVX X hl0 (ci := 8) dX8_activity_2 y_X8_demandHiker m_X8_181 rfl rfl e5 (t_x8_demandHiker (l := l) hst (G := G) e3) rfl rfl (Nat.le_of_ble_eq_true rfl) (by decide) ?_
    refine r_aload_n X 0 dX8_activity_5 rfl rfl ?_
    obtain ⟨x8, e9, E⟩ := gb_some E
    refine r_getR X dX8_activity_6 f_X8_10 e9 ?_
    refine r_iload_n X 1 dX8_activity_9 rfl rfl ?_
    obtain ⟨u13, e14, E⟩ := gb_some E
    obtain ⟨r10, g11, e12, E⟩ := cb_some E
    refine r_callV0 X hl0 (ci := 3) dX8_activity_10 y_X3_activityNow m_X8_238 rfl rfl e14 (t_x3_activityNow (l := l) (G := G) e12) rfl rfl (Nat.le_of_ble_eq_true rfl) (by decide) ?_
    cases E
    exact r_ret (r_iret X hr dX8_activity_13 (by decide) (by decide))
  · rw [Sum.elim_inr] at E
    cases E
    exact r_thrV X hl0 hnt (ci := 8) dX8_activity_2 y_X8_demandHiker m_X8_181 rfl rfl e5 (t_x8_demandHiker (l := l) hst (G := G) e3) rfl rfl (Nat.le_of_ble_eq_true rfl) (by decide) (by decide) (by decide)
theorem t_x8_activity {l : Launch} (hst : l.stackTraces = false) {G : GG} {p : Nat} {b0 : Int32} {g : AH} {o : (Int32 ⊕ String)} {g1 : AH} (E : x8_activity p b0 g = some (o, g1)) : CtX l G yX8_activity cX8_activity 2 (some .int) ⟨8, 1, 6, 221⟩ [.ref p, .int b0] g (ovI o) g1 :=
  ctX_of (L0 := [(0, .ref p), (1, .int b0)]) y_X8_activity rfl (Nat.le_of_ble_eq_true rfl) fun M hl0 X hr hnm hnt => t_x8_activity_b X hl0 hr hnm hnt hst E
set_option maxHeartbeats 4000000 in
set_option maxRecDepth 100000 in
theorem t_x8_hoursOf_b {l : Launch} {G : GG} {M : MC} (X : CX M G cX8_hoursOf 3 RX8 ⟨8, 2, 12, 221⟩) (hl0 : M.2.1 = l) (hr : (mM M).sig.returnType = (some .int)) (hnm : (mM M).name = yX8_hoursOf.name) (hnt : ∀ x ∈ (mC M).exceptionTable.toList, False) (hst : l.stackTraces = false) {p : Nat} {b0 : Int32} {b1 : Int32} {g : AH} {o : (Int32 ⊕ String)} {g1 : AH} (E : x8_hoursOf p b0 b1 g = some (o, g1)) : WW M G 3 (RX M G (ovI o) g1 2 12) 0 0 g 0 [(0, .ref p), (1, .int b0), (2, .int b1)] [] := by
  unfold x8_hoursOf at E
  refine r_aload_n X 0 dX8_hoursOf_0 rfl rfl ?_
  refine r_iload_n X 1 dX8_hoursOf_1 rfl rfl ?_
  obtain ⟨u4, e5, E⟩ := gb_some E
  obtain ⟨r1, g2, e3, E⟩ := cb_some E
  rcases r1 with v6 | w7
  · rw [Sum.elim_inl] at E
    refine r_callVX X hl0 (ci := 8) dX8_hoursOf_2 y_X8_demandHiker m_X8_181 rfl rfl e5 (t_x8_demandHiker (l := l) hst (G := G) e3) rfl rfl (Nat.le_of_ble_eq_true rfl) (by decide) ?_
    refine r_iload_n X 2 dX8_hoursOf_5 rfl rfl ?_
    refine r_iconst X (v := 0) dX8_hoursOf_6 (by decide) ?_
    refine r_iconst X (v := 3) dX8_hoursOf_7 (by decide) ?_
    obtain ⟨r8, g9, e10, E⟩ := cb_some E
    refine r_callS0 X hl0 dX8_hoursOf_8 y_X8_isWithin m_X8_100 (t_x8_isWithin (l := l) (G := G) e10) rfl rfl (Nat.le_of_ble_eq_true rfl) (by decide) ?_
    refine r_if_ne X 24 dX8_hoursOf_11 (by decide) (fun c11 => ?_) (fun c11 => ?_)
    · rw [if_neg c11] at E
      refine r_aload_n X 0 dX8_hoursOf_24 rfl rfl ?_
      obtain ⟨x12, e13, E⟩ := gb_some E
      refine r_getR X dX8_hoursOf_25 f_X8_10 e13 ?_
      obtain ⟨x14, e15, E⟩ := gb_some E
      refine r_getR X dX8_hoursOf_28 f_X8_223 e15 ?_
      refine r_iload_n X 1 dX8_hoursOf_31 rfl rfl ?_
      obtain ⟨x16, e17, E⟩ := gb_some E
      refine r_aald X 4 (by decide) rfl dX8_hoursOf_32 e17 ?_
      obtain ⟨x18, e19, E⟩ := gb_some E
      refine r_getR X dX8_hoursOf_33 f_X8_243 e19 ?_
      refine r_iload_n X 2 dX8_hoursOf_36 rfl rfl ?_
      obtain ⟨x20, e21, E⟩ := gb_some E
      refine r_iald X dX8_hoursOf_37 e21 ?_
      cases E
      exact r_ret (r_iret X hr dX8_hoursOf_38 (by decide) (by decide))
    · rw [if_pos c11] at E
      cases E
      exact r_throw X hl0 hst hnt th_X8_108 k_X8_104 (List.mem_of_getElem? (i := 7) rfl) dX8_hoursOf_14 dX8_hoursOf_17 dX8_hoursOf_18 dX8_hoursOf_20 dX8_hoursOf_23 ⟨by decide, Nat.le_of_ble_eq_true rfl⟩ (by decide) (by decide)
  · rw [Sum.elim_inr] at E
    cases E
    exact r_thrV X hl0 hnt (ci := 8) dX8_hoursOf_2 y_X8_demandHiker m_X8_181 rfl rfl e5 (t_x8_demandHiker (l := l) hst (G := G) e3) rfl rfl (Nat.le_of_ble_eq_true rfl) (by decide) (by decide) (by decide)
theorem t_x8_hoursOf {l : Launch} (hst : l.stackTraces = false) {G : GG} {p : Nat} {b0 : Int32} {b1 : Int32} {g : AH} {o : (Int32 ⊕ String)} {g1 : AH} (E : x8_hoursOf p b0 b1 g = some (o, g1)) : CtX l G yX8_hoursOf cX8_hoursOf 3 (some .int) ⟨8, 2, 12, 221⟩ [.ref p, .int b0, .int b1] g (ovI o) g1 :=
  ctX_of (L0 := [(0, .ref p), (1, .int b0), (2, .int b1)]) y_X8_hoursOf rfl (Nat.le_of_ble_eq_true rfl) fun M hl0 X hr hnm hnt => t_x8_hoursOf_b X hl0 hr hnm hnt hst E
set_option maxHeartbeats 4000000 in
set_option maxRecDepth 100000 in
theorem t_x8_coinsOf_b {l : Launch} {G : GG} {M : MC} (X : CX M G cX8_coinsOf 2 RX8 ⟨8, 1, 6, 221⟩) (hl0 : M.2.1 = l) (hr : (mM M).sig.returnType = (some .int)) (hnm : (mM M).name = yX8_coinsOf.name) (hnt : ∀ x ∈ (mC M).exceptionTable.toList, False) (hst : l.stackTraces = false) {p : Nat} {b0 : Int32} {g : AH} {o : (Int32 ⊕ String)} {g1 : AH} (E : x8_coinsOf p b0 g = some (o, g1)) : WW M G 2 (RX M G (ovI o) g1 1 6) 0 0 g 0 [(0, .ref p), (1, .int b0)] [] := by
  unfold x8_coinsOf at E
  refine r_aload_n X 0 dX8_coinsOf_0 rfl rfl ?_
  refine r_iload_n X 1 dX8_coinsOf_1 rfl rfl ?_
  obtain ⟨u4, e5, E⟩ := gb_some E
  obtain ⟨r1, g2, e3, E⟩ := cb_some E
  rcases r1 with v6 | w7
  · rw [Sum.elim_inl] at E
    refine r_callVX X hl0 (ci := 8) dX8_coinsOf_2 y_X8_demandHiker m_X8_181 rfl rfl e5 (t_x8_demandHiker (l := l) hst (G := G) e3) rfl rfl (Nat.le_of_ble_eq_true rfl) (by decide) ?_
    refine r_aload_n X 0 dX8_coinsOf_5 rfl rfl ?_
    obtain ⟨x8, e9, E⟩ := gb_some E
    refine r_getR X dX8_coinsOf_6 f_X8_10 e9 ?_
    obtain ⟨x10, e11, E⟩ := gb_some E
    refine r_getR X dX8_coinsOf_9 f_X8_223 e11 ?_
    refine r_iload_n X 1 dX8_coinsOf_12 rfl rfl ?_
    obtain ⟨x12, e13, E⟩ := gb_some E
    refine r_aald X 4 (by decide) rfl dX8_coinsOf_13 e13 ?_
    obtain ⟨x14, e15, E⟩ := gb_some E
    refine r_getI X dX8_coinsOf_14 f_X8_246 e15 ?_
    cases E
    exact r_ret (r_iret X hr dX8_coinsOf_17 (by decide) (by decide))
  · rw [Sum.elim_inr] at E
    cases E
    exact r_thrV X hl0 hnt (ci := 8) dX8_coinsOf_2 y_X8_demandHiker m_X8_181 rfl rfl e5 (t_x8_demandHiker (l := l) hst (G := G) e3) rfl rfl (Nat.le_of_ble_eq_true rfl) (by decide) (by decide) (by decide)
theorem t_x8_coinsOf {l : Launch} (hst : l.stackTraces = false) {G : GG} {p : Nat} {b0 : Int32} {g : AH} {o : (Int32 ⊕ String)} {g1 : AH} (E : x8_coinsOf p b0 g = some (o, g1)) : CtX l G yX8_coinsOf cX8_coinsOf 2 (some .int) ⟨8, 1, 6, 221⟩ [.ref p, .int b0] g (ovI o) g1 :=
  ctX_of (L0 := [(0, .ref p), (1, .int b0)]) y_X8_coinsOf rfl (Nat.le_of_ble_eq_true rfl) fun M hl0 X hr hnm hnt => t_x8_coinsOf_b X hl0 hr hnm hnt hst E
set_option maxHeartbeats 4000000 in
set_option maxRecDepth 100000 in
theorem t_x8_debtOf_b {l : Launch} {G : GG} {M : MC} (X : CX M G cX8_debtOf 2 RX8 ⟨8, 1, 6, 221⟩) (hl0 : M.2.1 = l) (hr : (mM M).sig.returnType = (some .int)) (hnm : (mM M).name = yX8_debtOf.name) (hnt : ∀ x ∈ (mC M).exceptionTable.toList, False) (hst : l.stackTraces = false) {p : Nat} {b0 : Int32} {g : AH} {o : (Int32 ⊕ String)} {g1 : AH} (E : x8_debtOf p b0 g = some (o, g1)) : WW M G 2 (RX M G (ovI o) g1 1 6) 0 0 g 0 [(0, .ref p), (1, .int b0)] [] := by
  unfold x8_debtOf at E
  refine r_aload_n X 0 dX8_debtOf_0 rfl rfl ?_
  refine r_iload_n X 1 dX8_debtOf_1 rfl rfl ?_
  obtain ⟨u4, e5, E⟩ := gb_some E
  obtain ⟨r1, g2, e3, E⟩ := cb_some E
  rcases r1 with v6 | w7
  · rw [Sum.elim_inl] at E
    refine r_callVX X hl0 (ci := 8) dX8_debtOf_2 y_X8_demandHiker m_X8_181 rfl rfl e5 (t_x8_demandHiker (l := l) hst (G := G) e3) rfl rfl (Nat.le_of_ble_eq_true rfl) (by decide) ?_
    refine r_aload_n X 0 dX8_debtOf_5 rfl rfl ?_
    obtain ⟨x8, e9, E⟩ := gb_some E
    refine r_getR X dX8_debtOf_6 f_X8_10 e9 ?_
    obtain ⟨x10, e11, E⟩ := gb_some E
    refine r_getR X dX8_debtOf_9 f_X8_223 e11 ?_
    refine r_iload_n X 1 dX8_debtOf_12 rfl rfl ?_
    obtain ⟨x12, e13, E⟩ := gb_some E
    refine r_aald X 4 (by decide) rfl dX8_debtOf_13 e13 ?_
    obtain ⟨x14, e15, E⟩ := gb_some E
    refine r_getI X dX8_debtOf_14 f_X8_249 e15 ?_
    cases E
    exact r_ret (r_iret X hr dX8_debtOf_17 (by decide) (by decide))
  · rw [Sum.elim_inr] at E
    cases E
    exact r_thrV X hl0 hnt (ci := 8) dX8_debtOf_2 y_X8_demandHiker m_X8_181 rfl rfl e5 (t_x8_demandHiker (l := l) hst (G := G) e3) rfl rfl (Nat.le_of_ble_eq_true rfl) (by decide) (by decide) (by decide)
theorem t_x8_debtOf {l : Launch} (hst : l.stackTraces = false) {G : GG} {p : Nat} {b0 : Int32} {g : AH} {o : (Int32 ⊕ String)} {g1 : AH} (E : x8_debtOf p b0 g = some (o, g1)) : CtX l G yX8_debtOf cX8_debtOf 2 (some .int) ⟨8, 1, 6, 221⟩ [.ref p, .int b0] g (ovI o) g1 :=
  ctX_of (L0 := [(0, .ref p), (1, .int b0)]) y_X8_debtOf rfl (Nat.le_of_ble_eq_true rfl) fun M hl0 X hr hnm hnt => t_x8_debtOf_b X hl0 hr hnm hnt hst E
set_option maxHeartbeats 4000000 in
set_option maxRecDepth 100000 in
theorem t_x1_ranksBefore_b {l : Launch} {G : GG} {M : MC} (X : CX M G cX1_ranksBefore 2 RX1 ⟨1, 0, 0, 60⟩) (hl0 : M.2.1 = l) (hr : (mM M).sig.returnType = (some .boolean)) (hnm : (mM M).name = yX1_ranksBefore.name) {p : Nat} {b0 : Nat} {g : AH} {r : Int32} {g1 : AH} (E : x1_ranksBefore p b0 g = some (r, g1)) : WW M G 2 (RQ M G (some (.int r)) g1 0 0) 0 0 g 0 [(0, .ref p), (1, .ref b0)] [] := by
  unfold x1_ranksBefore at E
  refine r_aload_n X 0 dX1_ranksBefore_0 rfl rfl ?_
  obtain ⟨x1, e2, E⟩ := gb_some E
  refine r_getR X dX1_ranksBefore_1 f_X1_18 e2 ?_
  refine r_iconst X (v := 2) dX1_ranksBefore_4 (by decide) ?_
  obtain ⟨x3, e4, E⟩ := gb_some E
  refine r_iald X dX1_ranksBefore_5 e4 ?_
  refine r_aload_n X 1 dX1_ranksBefore_6 rfl rfl ?_
  obtain ⟨x5, e6, E⟩ := gb_some E
  refine r_getR X dX1_ranksBefore_7 f_X1_18 e6 ?_
  refine r_iconst X (v := 2) dX1_ranksBefore_10 (by decide) ?_
  obtain ⟨x7, e8, E⟩ := gb_some E
  refine r_iald X dX1_ranksBefore_11 e8 ?_
  refine r_icmp_eq X 36 dX1_ranksBefore_12 (by decide) (fun c9 => ?_) (fun c9 => ?_)
  · rw [if_pos c9] at E
    refine r_aload_n X 0 dX1_ranksBefore_36 rfl rfl ?_
    obtain ⟨x10, e11, E⟩ := gb_some E
    refine r_getR X dX1_ranksBefore_37 f_X1_18 e11 ?_
    refine r_iconst X (v := 0) dX1_ranksBefore_40 (by decide) ?_
    obtain ⟨x12, e13, E⟩ := gb_some E
    refine r_iald X dX1_ranksBefore_41 e13 ?_
    refine r_aload_n X 1 dX1_ranksBefore_42 rfl rfl ?_
    obtain ⟨x14, e15, E⟩ := gb_some E
    refine r_getR X dX1_ranksBefore_43 f_X1_18 e15 ?_
    refine r_iconst X (v := 0) dX1_ranksBefore_46 (by decide) ?_
    obtain ⟨x16, e17, E⟩ := gb_some E
    refine r_iald X dX1_ranksBefore_47 e17 ?_
    refine r_icmp_ge X 55 dX1_ranksBefore_48 (by decide) (fun c18 => ?_) (fun c18 => ?_)
    · rw [if_pos c18] at E
      refine r_iconst X (v := 0) dX1_ranksBefore_55 (by decide) ?_
      cases E
      exact r_zret X hr (Or.inl rfl) dX1_ranksBefore_56 (by decide) (by decide)
    · rw [if_neg c18] at E
      refine r_iconst X (v := 1) dX1_ranksBefore_51 (by decide) ?_
      refine r_goto X 56 dX1_ranksBefore_52 (by decide) ?_
      cases E
      exact r_zret X hr (Or.inr rfl) dX1_ranksBefore_56 (by decide) (by decide)
  · rw [if_neg c9] at E
    refine r_aload_n X 0 dX1_ranksBefore_15 rfl rfl ?_
    obtain ⟨x19, e20, E⟩ := gb_some E
    refine r_getR X dX1_ranksBefore_16 f_X1_18 e20 ?_
    refine r_iconst X (v := 2) dX1_ranksBefore_19 (by decide) ?_
    obtain ⟨x21, e22, E⟩ := gb_some E
    refine r_iald X dX1_ranksBefore_20 e22 ?_
    refine r_aload_n X 1 dX1_ranksBefore_21 rfl rfl ?_
    obtain ⟨x23, e24, E⟩ := gb_some E
    refine r_getR X dX1_ranksBefore_22 f_X1_18 e24 ?_
    refine r_iconst X (v := 2) dX1_ranksBefore_25 (by decide) ?_
    obtain ⟨x25, e26, E⟩ := gb_some E
    refine r_iald X dX1_ranksBefore_26 e26 ?_
    refine r_icmp_le X 34 dX1_ranksBefore_27 (by decide) (fun c27 => ?_) (fun c27 => ?_)
    · rw [if_pos c27] at E
      refine r_iconst X (v := 0) dX1_ranksBefore_34 (by decide) ?_
      cases E
      exact r_zret X hr (Or.inl rfl) dX1_ranksBefore_35 (by decide) (by decide)
    · rw [if_neg c27] at E
      refine r_iconst X (v := 1) dX1_ranksBefore_30 (by decide) ?_
      refine r_goto X 35 dX1_ranksBefore_31 (by decide) ?_
      cases E
      exact r_zret X hr (Or.inr rfl) dX1_ranksBefore_35 (by decide) (by decide)
theorem t_x1_ranksBefore {l : Launch} {G : GG} {p : Nat} {b0 : Nat} {g : AH} {r : Int32} {g1 : AH} (E : x1_ranksBefore p b0 g = some (r, g1)) : Ct l G yX1_ranksBefore cX1_ranksBefore 2 (some .boolean) ⟨1, 0, 0, 60⟩ [.ref p, .ref b0] g (some (.int r)) g1 :=
  ct_of (L0 := [(0, .ref p), (1, .ref b0)]) y_X1_ranksBefore rfl (Nat.le_of_ble_eq_true rfl) fun M hl0 X hr hnm => t_x1_ranksBefore_b X hl0 hr hnm E
set_option maxHeartbeats 4000000 in
set_option maxRecDepth 100000 in
theorem t_x3_rankOfHiker_j68_4 {l : Launch} {G : GG} {M : MC} (X : CX M G cX3_rankOfHiker 5 RX3 ⟨2, 0, 0, 81⟩) (hl0 : M.2.1 = l) (hr : (mM M).sig.returnType = (some .int)) (hnm : (mM M).name = yX3_rankOfHiker.name) {Q : State → Prop} {kc ks : Nat} {s9 : ((Int32 × Int32) ⊕ (Int32))} {g1 : AH} {a0 : Nat} {a1 : Int32} {a2 : Int32} {a3 : Int32} (hc : ∀ s1, s9 = .inl s1 → WW M G 5 Q kc ks g1 4 [(0, .ref a0), (1, .int a1), (2, .int s1.1), (3, .int s1.2)] []) (hx : ∀ t, s9 = .inr t → WW M G 5 Q kc ks g1 74 [(2, .int t)] []) {g : AH} (E : x3_rankOfHiker_j68_4 a0 a1 a2 a3 g = some (s9, g1)) : WW M G 5 Q kc ks g 68 [(0, .ref a0), (1, .int a1), (2, .int a2), (3, .int a3)] [] := by
  unfold x3_rankOfHiker_j68_4 at E
  refine r_iinc X (v := (a3 + 1)) (L1 := [(3, .int (a3 + 1)), (0, .ref a0), (1, .int a1), (2, .int a2)]) dX3_rankOfHiker_68 rfl rfl (by decide) rfl ?_
  refine r_goto X 4 dX3_rankOfHiker_71 (by decide) ?_
  cases E
  exact r_pick (by rfl : lpick [(3, .int (a3 + 1)), (0, .ref a0), (1, .int a1), (2, .int a2)] [1, 2, 3, 0] = _) (hc _ rfl)
set_option maxHeartbeats 4000000 in
set_option maxRecDepth 100000 in
theorem t_x3_rankOfHiker_j65_4 {l : Launch} {G : GG} {M : MC} (X : CX M G cX3_rankOfHiker 5 RX3 ⟨2, 0, 0, 81⟩) (hl0 : M.2.1 = l) (hr : (mM M).sig.returnType = (some .int)) (hnm : (mM M).name = yX3_rankOfHiker.name) {Q : State → Prop} {kc ks : Nat} {s9 : ((Int32 × Int32) ⊕ (Int32))} {g1 : AH} {a0 : Nat} {a1 : Int32} {a2 : Int32} {a3 : Int32} (hc : ∀ s1, s9 = .inl s1 → WW M G 5 Q kc ks g1 4 [(0, .ref a0), (1, .int a1), (2, .int s1.1), (3, .int s1.2)] []) (hx : ∀ t, s9 = .inr t → WW M G 5 Q kc ks g1 74 [(2, .int t)] []) {g : AH} (E : x3_rankOfHiker_j65_4 a0 a1 a2 a3 g = some (s9, g1)) : WW M G 5 Q kc ks g 65 [(0, .ref a0), (1, .int a1), (2, .int a2), (3, .int a3)] [] := by
  unfold x3_rankOfHiker_j65_4 at E
  refine r_iinc X (v := (a2 + 1)) (L1 := [(2, .int (a2 + 1)), (0, .ref a0), (1, .int a1), (3, .int a3)]) dX3_rankOfHiker_65 rfl rfl (by decide) rfl ?_
  exact r_pick (by rfl : lpick [(2, .int (a2 + 1)), (0, .ref a0), (1, .int a1), (3, .int a3)] [1, 2, 0, 3] = _) (t_x3_rankOfHiker_j68_4 X hl0 hr hnm hc hx E)
set_option maxHeartbeats 4000000 in
set_option maxRecDepth 100000 in
theorem t_x3_rankOfHiker_j40_4 {l : Launch} {G : GG} {M : MC} (X : CX M G cX3_rankOfHiker 5 RX3 ⟨2, 0, 0, 81⟩) (hl0 : M.2.1 = l) (hr : (mM M).sig.returnType = (some .int)) (hnm : (mM M).name = yX3_rankOfHiker.name) {Q : State → Prop} {kc ks : Nat} {s9 : ((Int32 × Int32) ⊕ (Int32))} {g1 : AH} {a0 : Nat} {a1 : Int32} {a2 : Int32} {a3 : Int32} {s0 : Int32} (hc : ∀ s1, s9 = .inl s1 → WW M G 5 Q kc ks g1 4 [(0, .ref a0), (1, .int a1), (2, .int s1.1), (3, .int s1.2)] []) (hx : ∀ t, s9 = .inr t → WW M G 5 Q kc ks g1 74 [(2, .int t)] []) {g : AH} (E : x3_rankOfHiker_j40_4 a0 a1 a2 a3 s0 g = some (s9, g1)) : WW M G 5 Q kc ks g 40 [(0, .ref a0), (1, .int a1), (2, .int a2), (3, .int a3)] [.int s0] := by
  unfold x3_rankOfHiker_j40_4 at E
  refine r_istore X (L1 := [(4, .int s0), (0, .ref a0), (1, .int a1), (2, .int a2), (3, .int a3)]) dX3_rankOfHiker_40 (by decide) rfl ?_
  refine r_iload X dX3_rankOfHiker_42 rfl ?_
  refine r_if_ne X 65 dX3_rankOfHiker_44 (by decide) (fun c1 => ?_) (fun c1 => ?_)
  · rw [if_neg c1] at E
    exact r_pick (by rfl : lpick [(4, .int s0), (0, .ref a0), (1, .int a1), (2, .int a2), (3, .int a3)] [1, 2, 3, 4] = _) (t_x3_rankOfHiker_j65_4 X hl0 hr hnm hc hx E)
  · rw [if_pos c1] at E
    refine r_aload_n X 0 dX3_rankOfHiker_47 rfl rfl ?_
    obtain ⟨x2, e3, E⟩ := gb_some E
    refine r_getR X dX3_rankOfHiker_48 f_X3_29 e3 ?_
    refine r_iload_n X 3 dX3_rankOfHiker_51 rfl rfl ?_
    obtain ⟨x4, e5, E⟩ := gb_some E
    refine r_aald X 4 (by decide) rfl dX3_rankOfHiker_52 e5 ?_
    refine r_aload_n X 0 dX3_rankOfHiker_53 rfl rfl ?_
    obtain ⟨x6, e7, E⟩ := gb_some E
    refine r_getR X dX3_rankOfHiker_54 f_X3_29 e7 ?_
    refine r_iload_n X 1 dX3_rankOfHiker_57 rfl rfl ?_
    obtain ⟨x8, e9, E⟩ := gb_some E
    refine r_aald X 4 (by decide) rfl dX3_rankOfHiker_58 e9 ?_
    obtain ⟨u13, e14, E⟩ := gb_some E
    obtain ⟨r10, g11, e12, E⟩ := cb_some E
    refine r_callV0 X hl0 (ci := 1) dX3_rankOfHiker_59 y_X1_ranksBefore m_X3_184 rfl rfl e14 (t_x1_ranksBefore (l := l) (G := G) e12) rfl rfl (Nat.le_of_ble_eq_true rfl) (by decide) ?_
    refine r_if_eq X 68 dX3_rankOfHiker_62 (by decide) (fun c15 => ?_) (fun c15 => ?_)
    · rw [if_pos c15] at E
      exact r_pick (by rfl : lpick [(4, .int s0), (0, .ref a0), (1, .int a1), (2, .int a2), (3, .int a3)] [1, 2, 3, 4] = _) (t_x3_rankOfHiker_j68_4 X hl0 hr hnm hc hx E)
    · rw [if_neg c15] at E
      exact r_pick (by rfl : lpick [(4, .int s0), (0, .ref a0), (1, .int a1), (2, .int a2), (3, .int a3)] [1, 2, 3, 4] = _) (t_x3_rankOfHiker_j65_4 X hl0 hr hnm hc hx E)
set_option maxHeartbeats 4000000 in
set_option maxRecDepth 100000 in
theorem t_x3_rankOfHiker_j39_4 {l : Launch} {G : GG} {M : MC} (X : CX M G cX3_rankOfHiker 5 RX3 ⟨2, 0, 0, 81⟩) (hl0 : M.2.1 = l) (hr : (mM M).sig.returnType = (some .int)) (hnm : (mM M).name = yX3_rankOfHiker.name) {Q : State → Prop} {kc ks : Nat} {s9 : ((Int32 × Int32) ⊕ (Int32))} {g1 : AH} {a0 : Nat} {a1 : Int32} {a2 : Int32} {a3 : Int32} (hc : ∀ s1, s9 = .inl s1 → WW M G 5 Q kc ks g1 4 [(0, .ref a0), (1, .int a1), (2, .int s1.1), (3, .int s1.2)] []) (hx : ∀ t, s9 = .inr t → WW M G 5 Q kc ks g1 74 [(2, .int t)] []) {g : AH} (E : x3_rankOfHiker_j39_4 a0 a1 a2 a3 g = some (s9, g1)) : WW M G 5 Q kc ks g 39 [(0, .ref a0), (1, .int a1), (2, .int a2), (3, .int a3)] [] := by
  unfold x3_rankOfHiker_j39_4 at E
  refine r_iconst X (v := 0) dX3_rankOfHiker_39 (by decide) ?_
  exact r_pick (by rfl : lpick [(0, .ref a0), (1, .int a1), (2, .int a2), (3, .int a3)] [0, 1, 2, 3] = _) (t_x3_rankOfHiker_j40_4 X hl0 hr hnm hc hx E)
set_option maxHeartbeats 4000000 in
set_option maxRecDepth 100000 in
theorem t_x3_rankOfHiker_l4 {l : Launch} {G : GG} {M : MC} (X : CX M G cX3_rankOfHiker 5 RX3 ⟨2, 0, 0, 81⟩) (hl0 : M.2.1 = l) (hr : (mM M).sig.returnType = (some .int)) (hnm : (mM M).name = yX3_rankOfHiker.name) {Q : State → Prop} {kc ks : Nat} {s9 : ((Int32 × Int32) ⊕ (Int32))} {g1 : AH} {a0 : Nat} {a1 : Int32} {s0 : Int32 × Int32} (hc : ∀ s1, s9 = .inl s1 → WW M G 5 Q kc ks g1 4 [(0, .ref a0), (1, .int a1), (2, .int s1.1), (3, .int s1.2)] []) (hx : ∀ t, s9 = .inr t → WW M G 5 Q kc ks g1 74 [(2, .int t)] []) {g : AH} (E : x3_rankOfHiker_l4 a0 a1 s0 g = some (s9, g1)) : WW M G 5 Q kc ks g 4 [(0, .ref a0), (1, .int a1), (2, .int s0.1), (3, .int s0.2)] [] := by
  unfold x3_rankOfHiker_l4 at E
  refine r_iload_n X 3 dX3_rankOfHiker_4 rfl rfl ?_
  refine r_aload_n X 0 dX3_rankOfHiker_5 rfl rfl ?_
  obtain ⟨x1, e2, E⟩ := gb_some E
  refine r_getI X dX3_rankOfHiker_6 f_X3_78 e2 ?_
  refine r_icmp_ge X 74 dX3_rankOfHiker_9 (by decide) (fun c3 => ?_) (fun c3 => ?_)
  · rw [if_pos c3] at E
    cases E
    exact r_pick (by rfl : lpick [(0, .ref a0), (1, .int a1), (2, .int s0.1), (3, .int s0.2)] [2] = _) (hx _ rfl)
  · rw [if_neg c3] at E
    refine r_iload_n X 3 dX3_rankOfHiker_12 rfl rfl ?_
    refine r_iload_n X 1 dX3_rankOfHiker_13 rfl rfl ?_
    refine r_icmp_ge X 39 dX3_rankOfHiker_14 (by decide) (fun c4 => ?_) (fun c4 => ?_)
    · rw [if_pos c4] at E
      exact r_pick (by rfl : lpick [(0, .ref a0), (1, .int a1), (2, .int s0.1), (3, .int s0.2)] [0, 1, 2, 3] = _) (t_x3_rankOfHiker_j39_4 X hl0 hr hnm hc hx E)
    · rw [if_neg c4] at E
      refine r_aload_n X 0 dX3_rankOfHiker_17 rfl rfl ?_
      obtain ⟨x5, e6, E⟩ := gb_some E
      refine r_getR X dX3_rankOfHiker_18 f_X3_29 e6 ?_
      refine r_iload_n X 1 dX3_rankOfHiker_21 rfl rfl ?_
      obtain ⟨x7, e8, E⟩ := gb_some E
      refine r_aald X 4 (by decide) rfl dX3_rankOfHiker_22 e8 ?_
      refine r_aload_n X 0 dX3_rankOfHiker_23 rfl rfl ?_
      obtain ⟨x9, e10, E⟩ := gb_some E
      refine r_getR X dX3_rankOfHiker_24 f_X3_29 e10 ?_
      refine r_iload_n X 3 dX3_rankOfHiker_27 rfl rfl ?_
      obtain ⟨x11, e12, E⟩ := gb_some E
      refine r_aald X 4 (by decide) rfl dX3_rankOfHiker_28 e12 ?_
      obtain ⟨u16, e17, E⟩ := gb_some E
      obtain ⟨r13, g14, e15, E⟩ := cb_some E
      refine r_callV0 X hl0 (ci := 1) dX3_rankOfHiker_29 y_X1_ranksBefore m_X3_184 rfl rfl e17 (t_x1_ranksBefore (l := l) (G := G) e15) rfl rfl (Nat.le_of_ble_eq_true rfl) (by decide) ?_
      refine r_if_ne X 39 dX3_rankOfHiker_32 (by decide) (fun c18 => ?_) (fun c18 => ?_)
      · rw [if_neg c18] at E
        exact r_pick (by rfl : lpick [(0, .ref a0), (1, .int a1), (2, .int s0.1), (3, .int s0.2)] [0, 1, 2, 3] = _) (t_x3_rankOfHiker_j39_4 X hl0 hr hnm hc hx E)
      · rw [if_pos c18] at E
        refine r_iconst X (v := 1) dX3_rankOfHiker_35 (by decide) ?_
        refine r_goto X 40 dX3_rankOfHiker_36 (by decide) ?_
        exact r_pick (by rfl : lpick [(0, .ref a0), (1, .int a1), (2, .int s0.1), (3, .int s0.2)] [0, 1, 2, 3] = _) (t_x3_rankOfHiker_j40_4 X hl0 hr hnm hc hx E)
set_option maxHeartbeats 4000000 in
theorem t_x3_rankOfHiker_l4_r {l : Launch} {G : GG} {M : MC} (X : CX M G cX3_rankOfHiker 5 RX3 ⟨2, 0, 0, 81⟩) (hl0 : M.2.1 = l) (hr : (mM M).sig.returnType = (some .int)) (hnm : (mM M).name = yX3_rankOfHiker.name) {Q : State → Prop} {kc ks : Nat} {a0 : Nat} {a1 : Int32} : ∀ (n : Nat) (s0 : Int32 × Int32) (g : AH) (t : (Int32)) (g1 : AH), loopX (x3_rankOfHiker_l4 a0 a1) n s0 g = some (t, g1) → WW M G 5 Q kc ks g1 74 [(2, .int t)] [] → WW M G 5 Q kc ks g 4 [(0, .ref a0), (1, .int a1), (2, .int s0.1), (3, .int s0.2)] [] :=
  loop_cps (K := fun t g1 => WW M G 5 Q kc ks g1 74 [(2, .int t)] []) (fun _ s0 g => WW M G 5 Q kc ks g 4 [(0, .ref a0), (1, .int a1), (2, .int s0.1), (3, .int s0.2)] []) (fun n s0 g st g1 E hc hx => t_x3_rankOfHiker_l4 X hl0 hr hnm hc hx E)
set_option maxHeartbeats 4000000 in
set_option maxRecDepth 100000 in
theorem t_x3_rankOfHiker_b {l : Launch} {G : GG} {M : MC} (X : CX M G cX3_rankOfHiker 5 RX3 ⟨2, 0, 0, 81⟩) (hl0 : M.2.1 = l) (hr : (mM M).sig.returnType = (some .int)) (hnm : (mM M).name = yX3_rankOfHiker.name) {p : Nat} {b0 : Int32} {g : AH} {r : Int32} {g1 : AH} (E : x3_rankOfHiker p b0 g = some (r, g1)) : WW M G 5 (RQ M G (some (.int r)) g1 0 0) 0 0 g 0 [(0, .ref p), (1, .int b0)] [] := by
  unfold x3_rankOfHiker at E
  refine r_iconst X (v := 0) dX3_rankOfHiker_0 (by decide) ?_
  refine r_istore_n X 2 (L1 := [(2, .int 0), (0, .ref p), (1, .int b0)]) dX3_rankOfHiker_1 rfl (by decide) rfl ?_
  refine r_iconst X (v := 0) dX3_rankOfHiker_2 (by decide) ?_
  refine r_istore_n X 3 (L1 := [(3, .int 0), (2, .int 0), (0, .ref p), (1, .int b0)]) dX3_rankOfHiker_3 rfl (by decide) rfl ?_
  obtain ⟨t1, g2, e3, E⟩ := cb_some E
  refine r_pick (by rfl : lpick [(3, .int 0), (2, .int 0), (0, .ref p), (1, .int b0)] [2, 3, 1, 0] = _) (t_x3_rankOfHiker_l4_r X hl0 hr hnm _ _ _ _ _ e3 ?_)
  refine r_iload_n X 2 dX3_rankOfHiker_74 rfl rfl ?_
  cases E
  exact r_iret X hr dX3_rankOfHiker_75 (by decide) (by decide)
theorem t_x3_rankOfHiker {l : Launch} {G : GG} {p : Nat} {b0 : Int32} {g : AH} {r : Int32} {g1 : AH} (E : x3_rankOfHiker p b0 g = some (r, g1)) : Ct l G yX3_rankOfHiker cX3_rankOfHiker 5 (some .int) ⟨2, 0, 0, 81⟩ [.ref p, .int b0] g (some (.int r)) g1 :=
  ct_of (L0 := [(0, .ref p), (1, .int b0)]) y_X3_rankOfHiker rfl (Nat.le_of_ble_eq_true rfl) fun M hl0 X hr hnm => t_x3_rankOfHiker_b X hl0 hr hnm E
set_option maxHeartbeats 4000000 in
set_option maxRecDepth 100000 in
theorem t_x3_hikerOfRank_l2 {l : Launch} {G : GG} {M : MC} (X : CX M G cX3_hikerOfRank 3 RX3 ⟨3, 0, 0, 105⟩) (hl0 : M.2.1 = l) (hr : (mM M).sig.returnType = (some .int)) (hnm : (mM M).name = yX3_hikerOfRank.name) {Q : State → Prop} {kc ks : Nat} {s9 : ((Int32) ⊕ ((Unit) ⊕ Int32))} {g1 : AH} {a0 : Nat} {a1 : Int32} {s0 : Int32} (hc : ∀ s1, s9 = .inl s1 → WW M G 3 Q kc ks g1 2 [(0, .ref a0), (1, .int a1), (2, .int s1)] []) (hx : ∀ t, s9 = .inr t → Sum.elim (fun t1 => WW M G 3 Q kc ks g1 27 [] []) (fun t2 => ∃ mc ms : Nat, kc ≤ mc ∧ ks ≤ ms ∧ Q = RQ M G (some (.int t2)) g1 mc ms) t) {g : AH} (E : x3_hikerOfRank_l2 a0 a1 s0 g = some (s9, g1)) : WW M G 3 Q kc ks g 2 [(0, .ref a0), (1, .int a1), (2, .int s0)] [] := by
  unfold x3_hikerOfRank_l2 at E
  refine r_iload_n X 2 dX3_hikerOfRank_2 rfl rfl ?_
  refine r_aload_n X 0 dX3_hikerOfRank_3 rfl rfl ?_
  obtain ⟨x1, e2, E⟩ := gb_some E
  refine r_getI X dX3_hikerOfRank_4 f_X3_78 e2 ?_
  refine r_icmp_ge X 27 dX3_hikerOfRank_7 (by decide) (fun c3 => ?_) (fun c3 => ?_)
  · rw [if_pos c3] at E
    cases E
    exact r_pick (by rfl : lpick [(0, .ref a0), (1, .int a1), (2, .int s0)] [] = _) (hx _ rfl)
  · rw [if_neg c3] at E
    refine r_aload_n X 0 dX3_hikerOfRank_10 rfl rfl ?_
    refine r_iload_n X 2 dX3_hikerOfRank_11 rfl rfl ?_
    obtain ⟨u7, e8, E⟩ := gb_some E
    obtain ⟨r4, g5, e6, E⟩ := cb_some E
    refine r_callV0 X hl0 (ci := 3) dX3_hikerOfRank_12 y_X3_rankOfHiker m_X3_181 rfl rfl e8 (t_x3_rankOfHiker (l := l) (G := G) e6) rfl rfl (Nat.le_of_ble_eq_true rfl) (by decide) ?_
    refine r_iload_n X 1 dX3_hikerOfRank_15 rfl rfl ?_
    refine r_icmp_ne X 21 dX3_hikerOfRank_16 (by decide) (fun c9 => ?_) (fun c9 => ?_)
    · rw [if_neg c9] at E
      refine r_iinc X (v := (s0 + 1)) (L1 := [(2, .int (s0 + 1)), (0, .ref a0), (1, .int a1)]) dX3_hikerOfRank_21 rfl rfl (by decide) rfl ?_
      refine r_goto X 2 dX3_hikerOfRank_24 (by decide) ?_
      cases E
      exact r_pick (by rfl : lpick [(2, .int (s0 + 1)), (0, .ref a0), (1, .int a1)] [1, 2, 0] = _) (hc _ rfl)
    · rw [if_pos c9] at E
      refine r_iload_n X 2 dX3_hikerOfRank_19 rfl rfl ?_
      cases E
      obtain ⟨mc9, ms9, h91, h92, rfl⟩ := hx _ rfl
      exact r_iret X hr dX3_hikerOfRank_20 h91 h92
set_option maxHeartbeats 4000000 in
theorem t_x3_hikerOfRank_l2_r {l : Launch} {G : GG} {M : MC} (X : CX M G cX3_hikerOfRank 3 RX3 ⟨3, 0, 0, 105⟩) (hl0 : M.2.1 = l) (hr : (mM M).sig.returnType = (some .int)) (hnm : (mM M).name = yX3_hikerOfRank.name) {Q : State → Prop} {kc ks : Nat} {a0 : Nat} {a1 : Int32} : ∀ (n : Nat) (s0 : Int32) (g : AH) (t : ((Unit) ⊕ Int32)) (g1 : AH), loopX (x3_hikerOfRank_l2 a0 a1) n s0 g = some (t, g1) → Sum.elim (fun t1 => WW M G 3 Q kc ks g1 27 [] []) (fun t2 => ∃ mc ms : Nat, kc ≤ mc ∧ ks ≤ ms ∧ Q = RQ M G (some (.int t2)) g1 mc ms) t → WW M G 3 Q kc ks g 2 [(0, .ref a0), (1, .int a1), (2, .int s0)] [] :=
  loop_cps (K := fun t g1 => Sum.elim (fun t1 => WW M G 3 Q kc ks g1 27 [] []) (fun t2 => ∃ mc ms : Nat, kc ≤ mc ∧ ks ≤ ms ∧ Q = RQ M G (some (.int t2)) g1 mc ms) t) (fun _ s0 g => WW M G 3 Q kc ks g 2 [(0, .ref a0), (1, .int a1), (2, .int s0)] []) (fun n s0 g st g1 E hc hx => t_x3_hikerOfRank_l2 X hl0 hr hnm hc hx E)
set_option maxHeartbeats 4000000 in
set_option maxRecDepth 100000 in
theorem t_x3_hikerOfRank_b {l : Launch} {G : GG} {M : MC} (X : CX M G cX3_hikerOfRank 3 RX3 ⟨3, 0, 0, 105⟩) (hl0 : M.2.1 = l) (hr : (mM M).sig.returnType = (some .int)) (hnm : (mM M).name = yX3_hikerOfRank.name) {p : Nat} {b0 : Int32} {g : AH} {r : Int32} {g1 : AH} (E : x3_hikerOfRank p b0 g = some (r, g1)) : WW M G 3 (RQ M G (some (.int r)) g1 0 0) 0 0 g 0 [(0, .ref p), (1, .int b0)] [] := by
  unfold x3_hikerOfRank at E
  refine r_iconst X (v := 0) dX3_hikerOfRank_0 (by decide) ?_
  refine r_istore_n X 2 (L1 := [(2, .int 0), (0, .ref p), (1, .int b0)]) dX3_hikerOfRank_1 rfl (by decide) rfl ?_
  obtain ⟨t1, g2, e3, E⟩ := cb_some E
  rcases t1 with t4 | t5
  · rw [Sum.elim_inl] at E
    refine r_pick (by rfl : lpick [(2, .int 0), (0, .ref p), (1, .int b0)] [1, 2, 0] = _) (t_x3_hikerOfRank_l2_r X hl0 hr hnm _ _ _ _ _ e3 ?_)
    refine r_iconst X (v := (-1)) dX3_hikerOfRank_27 (by decide) ?_
    cases E
    exact r_iret X hr dX3_hikerOfRank_28 (by decide) (by decide)
  · rw [Sum.elim_inr] at E
    cases E
    exact r_pick (by rfl : lpick [(2, .int 0), (0, .ref p), (1, .int b0)] [1, 2, 0] = _) (t_x3_hikerOfRank_l2_r X hl0 hr hnm _ _ _ _ _ e3 ⟨_, _, by decide, by decide, rfl⟩)
theorem t_x3_hikerOfRank {l : Launch} {G : GG} {p : Nat} {b0 : Int32} {g : AH} {r : Int32} {g1 : AH} (E : x3_hikerOfRank p b0 g = some (r, g1)) : Ct l G yX3_hikerOfRank cX3_hikerOfRank 3 (some .int) ⟨3, 0, 0, 105⟩ [.ref p, .int b0] g (some (.int r)) g1 :=
  ct_of (L0 := [(0, .ref p), (1, .int b0)]) y_X3_hikerOfRank rfl (Nat.le_of_ble_eq_true rfl) fun M hl0 X hr hnm => t_x3_hikerOfRank_b X hl0 hr hnm E
set_option maxHeartbeats 4000000 in
set_option maxRecDepth 100000 in
theorem t_x8_hikerAtRank_b {l : Launch} {G : GG} {M : MC} (X : CX M G cX8_hikerAtRank 3 RX8 ⟨7, 1, 6, 200⟩) (hl0 : M.2.1 = l) (hr : (mM M).sig.returnType = (some .int)) (hnm : (mM M).name = yX8_hikerAtRank.name) (hnt : ∀ x ∈ (mC M).exceptionTable.toList, False) (hst : l.stackTraces = false) {p : Nat} {b0 : Int32} {g : AH} {o : (Int32 ⊕ String)} {g1 : AH} (E : x8_hikerAtRank p b0 g = some (o, g1)) : WW M G 3 (RX M G (ovI o) g1 1 6) 0 0 g 0 [(0, .ref p), (1, .int b0)] [] := by
  unfold x8_hikerAtRank at E
  refine r_aload_n X 0 dX8_hikerAtRank_0 rfl rfl ?_
  obtain ⟨x1, e2, E⟩ := gb_some E
  refine r_getR X dX8_hikerAtRank_1 f_X8_10 e2 ?_
  refine r_iload_n X 1 dX8_hikerAtRank_4 rfl rfl ?_
  obtain ⟨u6, e7, E⟩ := gb_some E
  obtain ⟨r3, g4, e5, E⟩ := cb_some E
  refine r_callV0 X hl0 (ci := 3) dX8_hikerAtRank_5 y_X3_hikerOfRank m_X8_252 rfl rfl e7 (t_x3_hikerOfRank (l := l) (G := G) e5) rfl rfl (Nat.le_of_ble_eq_true rfl) (by decide) ?_
  refine r_istore_n X 2 (L1 := [(2, .int r3), (0, .ref p), (1, .int b0)]) dX8_hikerAtRank_8 rfl (by decide) rfl ?_
  refine r_iload_n X 2 dX8_hikerAtRank_9 rfl rfl ?_
  refine r_iconst X (v := (-1)) dX8_hikerAtRank_10 (by decide) ?_
  refine r_icmp_ne X 24 dX8_hikerAtRank_11 (by decide) (fun c8 => ?_) (fun c8 => ?_)
  · rw [if_neg c8] at E
    refine r_iload_n X 2 dX8_hikerAtRank_24 rfl rfl ?_
    cases E
    exact r_ret (r_iret X hr dX8_hikerAtRank_25 (by decide) (by decide))
  · rw [if_pos c8] at E
    cases E
    exact r_throwN X hl0 hst hnt th_X8_216 k_X8_212 (List.mem_of_getElem? (i := 6) rfl) dX8_hikerAtRank_14 dX8_hikerAtRank_17 dX8_hikerAtRank_18 dX8_hikerAtRank_20 dX8_hikerAtRank_23 ⟨by decide, Nat.le_of_ble_eq_true rfl⟩ (by decide) (by decide)
theorem t_x8_hikerAtRank {l : Launch} (hst : l.stackTraces = false) {G : GG} {p : Nat} {b0 : Int32} {g : AH} {o : (Int32 ⊕ String)} {g1 : AH} (E : x8_hikerAtRank p b0 g = some (o, g1)) : CtX l G yX8_hikerAtRank cX8_hikerAtRank 3 (some .int) ⟨7, 1, 6, 200⟩ [.ref p, .int b0] g (ovI o) g1 :=
  ctX_of (L0 := [(0, .ref p), (1, .int b0)]) y_X8_hikerAtRank rfl (Nat.le_of_ble_eq_true rfl) fun M hl0 X hr hnm hnt => t_x8_hikerAtRank_b X hl0 hr hnm hnt hst E
set_option maxHeartbeats 4000000 in
set_option maxRecDepth 100000 in
theorem t_x5_loudestDisturber_j74_22 {l : Launch} {G : GG} {M : MC} (X : CX M G cX5_loudestDisturber 6 RX5 ⟨4, 0, 0, 193⟩) (hl0 : M.2.1 = l) (hr : (mM M).sig.returnType = (some .int)) (hnm : (mM M).name = yX5_loudestDisturber.name) {Q : State → Prop} {kc ks : Nat} {s9 : ((Int32 × Int32 × Int32) ⊕ (Int32))} {g1 : AH} {a0 : Nat} {a1 : Nat} {a2 : Int32} {a3 : Int32} {a4 : Int32} (hc : ∀ s1, s9 = .inl s1 → WW M G 6 Q kc ks g1 22 [(0, .ref a0), (1, .ref a1), (2, .int s1.1), (3, .int s1.2.1), (4, .int s1.2.2)] []) (hx : ∀ t, s9 = .inr t → WW M G 6 Q kc ks g1 103 [(2, .int t)] []) {g : AH} (E : x5_loudestDisturber_j74_22 a0 a1 a2 a3 a4 g = some (s9, g1)) : WW M G 6 Q kc ks g 74 [(0, .ref a0), (1, .ref a1), (2, .int a2), (3, .int a3), (4, .int a4)] [] := by
  unfold x5_loudestDisturber_j74_22 at E
  refine r_aload_n X 0 dX5_loudestDisturber_74 rfl rfl ?_
  obtain ⟨x1, e2, E⟩ := gb_some E
  refine r_getR X dX5_loudestDisturber_75 f_X5_12 e2 ?_
  obtain ⟨x3, e4, E⟩ := gb_some E
  refine r_getR X dX5_loudestDisturber_78 f_X5_38 e4 ?_
  refine r_iload X dX5_loudestDisturber_81 rfl ?_
  obtain ⟨x5, e6, E⟩ := gb_some E
  refine r_aald X 4 (by decide) rfl dX5_loudestDisturber_83 e6 ?_
  refine r_aload_n X 1 dX5_loudestDisturber_84 rfl rfl ?_
  obtain ⟨x7, e8, E⟩ := gb_some E
  refine r_getR X dX5_loudestDisturber_85 f_X5_38 e8 ?_
  refine r_iload X dX5_loudestDisturber_88 rfl ?_
  obtain ⟨x9, e10, E⟩ := gb_some E
  refine r_aald X 4 (by decide) rfl dX5_loudestDisturber_90 e10 ?_
  obtain ⟨x11, e12, E⟩ := gb_some E
  refine r_getI X dX5_loudestDisturber_91 f_X5_56 e12 ?_
  obtain ⟨g13, e14, E⟩ := gb_some E
  refine r_put X dX5_loudestDisturber_94 f_X5_56 rfl rfl e14 ?_
  refine r_iinc X (v := (a4 + 1)) (L1 := [(4, .int (a4 + 1)), (0, .ref a0), (1, .ref a1), (2, .int a2), (3, .int a3)]) dX5_loudestDisturber_97 rfl rfl (by decide) rfl ?_
  refine r_goto X 22 dX5_loudestDisturber_100 (by decide) ?_
  cases E
  exact r_pick (by rfl : lpick [(4, .int (a4 + 1)), (0, .ref a0), (1, .ref a1), (2, .int a2), (3, .int a3)] [1, 2, 3, 4, 0] = _) (hc _ rfl)
set_option maxHeartbeats 4000000 in
set_option maxRecDepth 100000 in
theorem t_x5_loudestDisturber_l22 {l : Launch} {G : GG} {M : MC} (X : CX M G cX5_loudestDisturber 6 RX5 ⟨4, 0, 0, 193⟩) (hl0 : M.2.1 = l) (hr : (mM M).sig.returnType = (some .int)) (hnm : (mM M).name = yX5_loudestDisturber.name) {Q : State → Prop} {kc ks : Nat} {s9 : ((Int32 × Int32 × Int32) ⊕ (Int32))} {g1 : AH} {a0 : Nat} {a1 : Nat} {s0 : Int32 × Int32 × Int32} (hc : ∀ s1, s9 = .inl s1 → WW M G 6 Q kc ks g1 22 [(0, .ref a0), (1, .ref a1), (2, .int s1.1), (3, .int s1.2.1), (4, .int s1.2.2)] []) (hx : ∀ t, s9 = .inr t → WW M G 6 Q kc ks g1 103 [(2, .int t)] []) {g : AH} (E : x5_loudestDisturber_l22 a0 a1 s0 g = some (s9, g1)) : WW M G 6 Q kc ks g 22 [(0, .ref a0), (1, .ref a1), (2, .int s0.1), (3, .int s0.2.1), (4, .int s0.2.2)] [] := by
  unfold x5_loudestDisturber_l22 at E
  refine r_iload X dX5_loudestDisturber_22 rfl ?_
  refine r_aload_n X 1 dX5_loudestDisturber_24 rfl rfl ?_
  obtain ⟨x1, e2, E⟩ := gb_some E
  refine r_getI X dX5_loudestDisturber_25 f_X5_53 e2 ?_
  refine r_icmp_ge X 103 dX5_loudestDisturber_28 (by decide) (fun c3 => ?_) (fun c3 => ?_)
  · rw [if_pos c3] at E
    cases E
    exact r_pick (by rfl : lpick [(0, .ref a0), (1, .ref a1), (2, .int s0.1), (3, .int s0.2.1), (4, .int s0.2.2)] [2] = _) (hx _ rfl)
  · rw [if_neg c3] at E
    refine r_aload_n X 0 dX5_loudestDisturber_31 rfl rfl ?_
    obtain ⟨x4, e5, E⟩ := gb_some E
    refine r_getR X dX5_loudestDisturber_32 f_X5_12 e5 ?_
    obtain ⟨x6, e7, E⟩ := gb_some E
    refine r_getR X dX5_loudestDisturber_35 f_X5_38 e7 ?_
    refine r_iload X dX5_loudestDisturber_38 rfl ?_
    obtain ⟨x8, e9, E⟩ := gb_some E
    refine r_aald X 4 (by decide) rfl dX5_loudestDisturber_40 e9 ?_
    refine r_iconst X (v := 0) dX5_loudestDisturber_41 (by decide) ?_
    obtain ⟨g10, e11, E⟩ := gb_some E
    refine r_put X dX5_loudestDisturber_42 f_X5_56 rfl rfl e11 ?_
    refine r_aload_n X 0 dX5_loudestDisturber_45 rfl rfl ?_
    obtain ⟨x12, e13, E⟩ := gb_some E
    refine r_getR X dX5_loudestDisturber_46 f_X5_12 e13 ?_
    obtain ⟨u17, e18, E⟩ := gb_some E
    obtain ⟨r14, g15, e16, E⟩ := cb_some E
    refine r_callV0 X hl0 (ci := 3) dX5_loudestDisturber_49 y_X3_measure m_X5_59 rfl rfl e18 (t_x3_measure (l := l) (G := G) e16) rfl rfl (Nat.le_of_ble_eq_true rfl) (by decide) ?_
    refine r_aload_n X 0 dX5_loudestDisturber_52 rfl rfl ?_
    obtain ⟨x19, e20, E⟩ := gb_some E
    refine r_getR X dX5_loudestDisturber_53 f_X5_12 e20 ?_
    refine r_iconst X (v := 1) dX5_loudestDisturber_56 (by decide) ?_
    obtain ⟨u24, e25, E⟩ := gb_some E
    obtain ⟨r21, g22, e23, E⟩ := cb_some E
    refine r_callV0 X hl0 (ci := 3) dX5_loudestDisturber_57 y_X3_countOf m_X5_26 rfl rfl e25 (t_x3_countOf (l := l) (G := G) e23) rfl rfl (Nat.le_of_ble_eq_true rfl) (by decide) ?_
    refine r_istore X (L1 := [(5, .int r21), (0, .ref a0), (1, .ref a1), (2, .int s0.1), (3, .int s0.2.1), (4, .int s0.2.2)]) dX5_loudestDisturber_60 (by decide) rfl ?_
    refine r_iload X dX5_loudestDisturber_62 rfl ?_
    refine r_iload_n X 3 dX5_loudestDisturber_64 rfl rfl ?_
    refine r_icmp_ge X 74 dX5_loudestDisturber_65 (by decide) (fun c26 => ?_) (fun c26 => ?_)
    · rw [if_pos c26] at E
      exact r_pick (by rfl : lpick [(5, .int r21), (0, .ref a0), (1, .ref a1), (2, .int s0.1), (3, .int s0.2.1), (4, .int s0.2.2)] [1, 2, 3, 4, 5] = _) (t_x5_loudestDisturber_j74_22 X hl0 hr hnm hc hx E)
    · rw [if_neg c26] at E
      refine r_iload X dX5_loudestDisturber_68 rfl ?_
      refine r_istore_n X 3 (L1 := [(3, .int r21), (5, .int r21), (0, .ref a0), (1, .ref a1), (2, .int s0.1), (4, .int s0.2.2)]) dX5_loudestDisturber_70 rfl (by decide) rfl ?_
      refine r_iload X dX5_loudestDisturber_71 rfl ?_
      refine r_istore_n X 2 (L1 := [(2, .int s0.2.2), (3, .int r21), (5, .int r21), (0, .ref a0), (1, .ref a1), (4, .int s0.2.2)]) dX5_loudestDisturber_73 rfl (by decide) rfl ?_
      exact r_pick (by rfl : lpick [(2, .int s0.2.2), (3, .int r21), (5, .int r21), (0, .ref a0), (1, .ref a1), (4, .int s0.2.2)] [3, 4, 0, 1, 5] = _) (t_x5_loudestDisturber_j74_22 X hl0 hr hnm hc hx E)
set_option maxHeartbeats 4000000 in
theorem t_x5_loudestDisturber_l22_r {l : Launch} {G : GG} {M : MC} (X : CX M G cX5_loudestDisturber 6 RX5 ⟨4, 0, 0, 193⟩) (hl0 : M.2.1 = l) (hr : (mM M).sig.returnType = (some .int)) (hnm : (mM M).name = yX5_loudestDisturber.name) {Q : State → Prop} {kc ks : Nat} {a0 : Nat} {a1 : Nat} : ∀ (n : Nat) (s0 : Int32 × Int32 × Int32) (g : AH) (t : (Int32)) (g1 : AH), loopX (x5_loudestDisturber_l22 a0 a1) n s0 g = some (t, g1) → WW M G 6 Q kc ks g1 103 [(2, .int t)] [] → WW M G 6 Q kc ks g 22 [(0, .ref a0), (1, .ref a1), (2, .int s0.1), (3, .int s0.2.1), (4, .int s0.2.2)] [] :=
  loop_cps (K := fun t g1 => WW M G 6 Q kc ks g1 103 [(2, .int t)] []) (fun _ s0 g => WW M G 6 Q kc ks g 22 [(0, .ref a0), (1, .ref a1), (2, .int s0.1), (3, .int s0.2.1), (4, .int s0.2.2)] []) (fun n s0 g st g1 E hc hx => t_x5_loudestDisturber_l22 X hl0 hr hnm hc hx E)
set_option maxHeartbeats 4000000 in
set_option maxRecDepth 100000 in
theorem t_x5_loudestDisturber_b {l : Launch} {G : GG} {M : MC} (X : CX M G cX5_loudestDisturber 6 RX5 ⟨4, 0, 0, 193⟩) (hl0 : M.2.1 = l) (hr : (mM M).sig.returnType = (some .int)) (hnm : (mM M).name = yX5_loudestDisturber.name) {p : Nat} {b0 : Nat} {g : AH} {r : Int32} {g1 : AH} (E : x5_loudestDisturber p b0 g = some (r, g1)) : WW M G 6 (RQ M G (some (.int r)) g1 0 0) 0 0 g 0 [(0, .ref p), (1, .ref b0)] [] := by
  unfold x5_loudestDisturber at E
  refine r_aload_n X 0 dX5_loudestDisturber_0 rfl rfl ?_
  obtain ⟨x1, e2, E⟩ := gb_some E
  refine r_getR X dX5_loudestDisturber_1 f_X5_12 e2 ?_
  refine r_aload_n X 1 dX5_loudestDisturber_4 rfl rfl ?_
  obtain ⟨u6, e7, E⟩ := gb_some E
  obtain ⟨r3, g4, e5, E⟩ := cb_some E
  refine r_callV0 X hl0 (ci := 3) dX5_loudestDisturber_5 y_X3_copyFrom m_X5_18 rfl rfl e7 (t_x3_copyFrom (l := l) (G := G) e5) rfl rfl (Nat.le_of_ble_eq_true rfl) (by decide) ?_
  refine r_iconst X (v := (-1)) dX5_loudestDisturber_8 (by decide) ?_
  refine r_istore_n X 2 (L1 := [(2, .int (-1)), (0, .ref p), (1, .ref b0)]) dX5_loudestDisturber_9 rfl (by decide) rfl ?_
  refine r_aload_n X 0 dX5_loudestDisturber_10 rfl rfl ?_
  obtain ⟨x8, e9, E⟩ := gb_some E
  refine r_getR X dX5_loudestDisturber_11 f_X5_12 e9 ?_
  refine r_iconst X (v := 1) dX5_loudestDisturber_14 (by decide) ?_
  obtain ⟨u13, e14, E⟩ := gb_some E
  obtain ⟨r10, g11, e12, E⟩ := cb_some E
  refine r_callV0 X hl0 (ci := 3) dX5_loudestDisturber_15 y_X3_countOf m_X5_26 rfl rfl e14 (t_x3_countOf (l := l) (G := G) e12) rfl rfl (Nat.le_of_ble_eq_true rfl) (by decide) ?_
  refine r_istore_n X 3 (L1 := [(3, .int r10), (2, .int (-1)), (0, .ref p), (1, .ref b0)]) dX5_loudestDisturber_18 rfl (by decide) rfl ?_
  refine r_iconst X (v := 0) dX5_loudestDisturber_19 (by decide) ?_
  refine r_istore X (L1 := [(4, .int 0), (3, .int r10), (2, .int (-1)), (0, .ref p), (1, .ref b0)]) dX5_loudestDisturber_20 (by decide) rfl ?_
  obtain ⟨t15, g16, e17, E⟩ := cb_some E
  refine r_pick (by rfl : lpick [(4, .int 0), (3, .int r10), (2, .int (-1)), (0, .ref p), (1, .ref b0)] [3, 4, 2, 1, 0] = _) (t_x5_loudestDisturber_l22_r X hl0 hr hnm _ _ _ _ _ e17 ?_)
  refine r_iload_n X 2 dX5_loudestDisturber_103 rfl rfl ?_
  cases E
  exact r_iret X hr dX5_loudestDisturber_104 (by decide) (by decide)
theorem t_x5_loudestDisturber {l : Launch} {G : GG} {p : Nat} {b0 : Nat} {g : AH} {r : Int32} {g1 : AH} (E : x5_loudestDisturber p b0 g = some (r, g1)) : Ct l G yX5_loudestDisturber cX5_loudestDisturber 6 (some .int) ⟨4, 0, 0, 193⟩ [.ref p, .ref b0] g (some (.int r)) g1 :=
  ct_of (L0 := [(0, .ref p), (1, .ref b0)]) y_X5_loudestDisturber rfl (Nat.le_of_ble_eq_true rfl) fun M hl0 X hr hnm => t_x5_loudestDisturber_b X hl0 hr hnm E
set_option maxHeartbeats 4000000 in
set_option maxRecDepth 100000 in
theorem t_x8_worstSnorer_b {l : Launch} {G : GG} {M : MC} (X : CX M G cX8_worstSnorer 1 RX8 ⟨5, 0, 0, 218⟩) (hl0 : M.2.1 = l) (hr : (mM M).sig.returnType = (some .int)) (hnm : (mM M).name = yX8_worstSnorer.name) {p : Nat} {g : AH} {r : Int32} {g1 : AH} (E : x8_worstSnorer p g = some (r, g1)) : WW M G 1 (RQ M G (some (.int r)) g1 0 0) 0 0 g 0 [(0, .ref p)] [] := by
  unfold x8_worstSnorer at E
  refine r_aload_n X 0 dX8_worstSnorer_0 rfl rfl ?_
  obtain ⟨x1, e2, E⟩ := gb_some E
  refine r_getR X dX8_worstSnorer_1 f_X8_22 e2 ?_
  refine r_aload_n X 0 dX8_worstSnorer_4 rfl rfl ?_
  obtain ⟨x3, e4, E⟩ := gb_some E
  refine r_getR X dX8_worstSnorer_5 f_X8_10 e4 ?_
  obtain ⟨u8, e9, E⟩ := gb_some E
  obtain ⟨r5, g6, e7, E⟩ := cb_some E
  refine r_callV0 X hl0 (ci := 5) dX8_worstSnorer_8 y_X5_loudestDisturber m_X8_255 rfl rfl e9 (t_x5_loudestDisturber (l := l) (G := G) e7) rfl rfl (Nat.le_of_ble_eq_true rfl) (by decide) ?_
  cases E
  exact r_iret X hr dX8_worstSnorer_11 (by decide) (by decide)
theorem t_x8_worstSnorer {l : Launch} {G : GG} {p : Nat} {g : AH} {r : Int32} {g1 : AH} (E : x8_worstSnorer p g = some (r, g1)) : Ct l G yX8_worstSnorer cX8_worstSnorer 1 (some .int) ⟨5, 0, 0, 218⟩ [.ref p] g (some (.int r)) g1 :=
  ct_of (L0 := [(0, .ref p)]) y_X8_worstSnorer rfl (Nat.le_of_ble_eq_true rfl) fun M hl0 X hr hnm => t_x8_worstSnorer_b X hl0 hr hnm E
set_option maxHeartbeats 4000000 in
set_option maxRecDepth 100000 in
theorem t_x8_hikersWithout_b {l : Launch} {G : GG} {M : MC} (X : CX M G cX8_hikersWithout 1 RX8 ⟨2, 0, 0, 82⟩) (hl0 : M.2.1 = l) (hr : (mM M).sig.returnType = (some .int)) (hnm : (mM M).name = yX8_hikersWithout.name) {p : Nat} {g : AH} {r : Int32} {g1 : AH} (E : x8_hikersWithout p g = some (r, g1)) : WW M G 1 (RQ M G (some (.int r)) g1 0 0) 0 0 g 0 [(0, .ref p)] [] := by
  unfold x8_hikersWithout at E
  refine r_aload_n X 0 dX8_hikersWithout_0 rfl rfl ?_
  obtain ⟨x1, e2, E⟩ := gb_some E
  refine r_getR X dX8_hikersWithout_1 f_X8_10 e2 ?_
  obtain ⟨u6, e7, E⟩ := gb_some E
  obtain ⟨r3, g4, e5, E⟩ := cb_some E
  refine r_callV0 X hl0 (ci := 3) dX8_hikersWithout_4 y_X3_hikersWithoutBlanket m_X8_259 rfl rfl e7 (t_x3_hikersWithoutBlanket (l := l) (G := G) e5) rfl rfl (Nat.le_of_ble_eq_true rfl) (by decide) ?_
  cases E
  exact r_iret X hr dX8_hikersWithout_7 (by decide) (by decide)
theorem t_x8_hikersWithout {l : Launch} {G : GG} {p : Nat} {g : AH} {r : Int32} {g1 : AH} (E : x8_hikersWithout p g = some (r, g1)) : Ct l G yX8_hikersWithout cX8_hikersWithout 1 (some .int) ⟨2, 0, 0, 82⟩ [.ref p] g (some (.int r)) g1 :=
  ct_of (L0 := [(0, .ref p)]) y_X8_hikersWithout rfl (Nat.le_of_ble_eq_true rfl) fun M hl0 X hr hnm => t_x8_hikersWithout_b X hl0 hr hnm E
set_option maxHeartbeats 4000000 in
set_option maxRecDepth 100000 in
theorem t_x8_coldHikers_b {l : Launch} {G : GG} {M : MC} (X : CX M G cX8_coldHikers 1 RX8 ⟨5, 0, 0, 149⟩) (hl0 : M.2.1 = l) (hr : (mM M).sig.returnType = (some .int)) (hnm : (mM M).name = yX8_coldHikers.name) {p : Nat} {g : AH} {r : Int32} {g1 : AH} (E : x8_coldHikers p g = some (r, g1)) : WW M G 1 (RQ M G (some (.int r)) g1 0 0) 0 0 g 0 [(0, .ref p)] [] := by
  unfold x8_coldHikers at E
  refine r_aload_n X 0 dX8_coldHikers_0 rfl rfl ?_
  obtain ⟨x1, e2, E⟩ := gb_some E
  refine r_getR X dX8_coldHikers_1 f_X8_10 e2 ?_
  obtain ⟨u6, e7, E⟩ := gb_some E
  obtain ⟨r3, g4, e5, E⟩ := cb_some E
  refine r_callV0 X hl0 (ci := 3) dX8_coldHikers_4 y_X3_coldCount m_X8_262 rfl rfl e7 (t_x3_coldCount (l := l) (G := G) e5) rfl rfl (Nat.le_of_ble_eq_true rfl) (by decide) ?_
  cases E
  exact r_iret X hr dX8_coldHikers_7 (by decide) (by decide)
theorem t_x8_coldHikers {l : Launch} {G : GG} {p : Nat} {g : AH} {r : Int32} {g1 : AH} (E : x8_coldHikers p g = some (r, g1)) : Ct l G yX8_coldHikers cX8_coldHikers 1 (some .int) ⟨5, 0, 0, 149⟩ [.ref p] g (some (.int r)) g1 :=
  ct_of (L0 := [(0, .ref p)]) y_X8_coldHikers rfl (Nat.le_of_ble_eq_true rfl) fun M hl0 X hr hnm => t_x8_coldHikers_b X hl0 hr hnm E
set_option maxHeartbeats 4000000 in
set_option maxRecDepth 100000 in
theorem t_x3_hikerMissingMost_j55_4 {l : Launch} {G : GG} {M : MC} (X : CX M G cX3_hikerMissingMost 3 RX3 ⟨1, 0, 0, 60⟩) (hl0 : M.2.1 = l) (hr : (mM M).sig.returnType = (some .int)) (hnm : (mM M).name = yX3_hikerMissingMost.name) {Q : State → Prop} {kc ks : Nat} {s9 : ((Int32 × Int32) ⊕ (Int32))} {g1 : AH} {a0 : Nat} {a1 : Int32} {a2 : Int32} (hc : ∀ s1, s9 = .inl s1 → WW M G 3 Q kc ks g1 4 [(0, .ref a0), (1, .int s1.1), (2, .int s1.2)] []) (hx : ∀ t, s9 = .inr t → WW M G 3 Q kc ks g1 61 [(1, .int t)] []) {g : AH} (E : x3_hikerMissingMost_j55_4 a0 a1 a2 g = some (s9, g1)) : WW M G 3 Q kc ks g 55 [(0, .ref a0), (1, .int a1), (2, .int a2)] [] := by
  unfold x3_hikerMissingMost_j55_4 at E
  refine r_iinc X (v := (a2 + 1)) (L1 := [(2, .int (a2 + 1)), (0, .ref a0), (1, .int a1)]) dX3_hikerMissingMost_55 rfl rfl (by decide) rfl ?_
  refine r_goto X 4 dX3_hikerMissingMost_58 (by decide) ?_
  cases E
  exact r_pick (by rfl : lpick [(2, .int (a2 + 1)), (0, .ref a0), (1, .int a1)] [1, 2, 0] = _) (hc _ rfl)
set_option maxHeartbeats 4000000 in
set_option maxRecDepth 100000 in
theorem t_x3_hikerMissingMost_l4 {l : Launch} {G : GG} {M : MC} (X : CX M G cX3_hikerMissingMost 3 RX3 ⟨1, 0, 0, 60⟩) (hl0 : M.2.1 = l) (hr : (mM M).sig.returnType = (some .int)) (hnm : (mM M).name = yX3_hikerMissingMost.name) {Q : State → Prop} {kc ks : Nat} {s9 : ((Int32 × Int32) ⊕ (Int32))} {g1 : AH} {a0 : Nat} {s0 : Int32 × Int32} (hc : ∀ s1, s9 = .inl s1 → WW M G 3 Q kc ks g1 4 [(0, .ref a0), (1, .int s1.1), (2, .int s1.2)] []) (hx : ∀ t, s9 = .inr t → WW M G 3 Q kc ks g1 61 [(1, .int t)] []) {g : AH} (E : x3_hikerMissingMost_l4 a0 s0 g = some (s9, g1)) : WW M G 3 Q kc ks g 4 [(0, .ref a0), (1, .int s0.1), (2, .int s0.2)] [] := by
  unfold x3_hikerMissingMost_l4 at E
  refine r_iload_n X 2 dX3_hikerMissingMost_4 rfl rfl ?_
  refine r_aload_n X 0 dX3_hikerMissingMost_5 rfl rfl ?_
  obtain ⟨x1, e2, E⟩ := gb_some E
  refine r_getI X dX3_hikerMissingMost_6 f_X3_78 e2 ?_
  refine r_icmp_ge X 61 dX3_hikerMissingMost_9 (by decide) (fun c3 => ?_) (fun c3 => ?_)
  · rw [if_pos c3] at E
    cases E
    exact r_pick (by rfl : lpick [(0, .ref a0), (1, .int s0.1), (2, .int s0.2)] [1] = _) (hx _ rfl)
  · rw [if_neg c3] at E
    refine r_aload_n X 0 dX3_hikerMissingMost_12 rfl rfl ?_
    obtain ⟨x4, e5, E⟩ := gb_some E
    refine r_getR X dX3_hikerMissingMost_13 f_X3_29 e5 ?_
    refine r_iload_n X 2 dX3_hikerMissingMost_16 rfl rfl ?_
    obtain ⟨x6, e7, E⟩ := gb_some E
    refine r_aald X 4 (by decide) rfl dX3_hikerMissingMost_17 e7 ?_
    obtain ⟨x8, e9, E⟩ := gb_some E
    refine r_getI X dX3_hikerMissingMost_18 f_X3_178 e9 ?_
    refine r_aload_n X 0 dX3_hikerMissingMost_21 rfl rfl ?_
    obtain ⟨x10, e11, E⟩ := gb_some E
    refine r_getR X dX3_hikerMissingMost_22 f_X3_29 e11 ?_
    refine r_iload_n X 2 dX3_hikerMissingMost_25 rfl rfl ?_
    obtain ⟨x12, e13, E⟩ := gb_some E
    refine r_aald X 4 (by decide) rfl dX3_hikerMissingMost_26 e13 ?_
    obtain ⟨x14, e15, E⟩ := gb_some E
    refine r_getI X dX3_hikerMissingMost_27 f_X3_111 e15 ?_
    refine r_isub X dX3_hikerMissingMost_30 ?_
    refine r_aload_n X 0 dX3_hikerMissingMost_31 rfl rfl ?_
    obtain ⟨x16, e17, E⟩ := gb_some E
    refine r_getR X dX3_hikerMissingMost_32 f_X3_29 e17 ?_
    refine r_iload_n X 1 dX3_hikerMissingMost_35 rfl rfl ?_
    obtain ⟨x18, e19, E⟩ := gb_some E
    refine r_aald X 4 (by decide) rfl dX3_hikerMissingMost_36 e19 ?_
    obtain ⟨x20, e21, E⟩ := gb_some E
    refine r_getI X dX3_hikerMissingMost_37 f_X3_178 e21 ?_
    refine r_aload_n X 0 dX3_hikerMissingMost_40 rfl rfl ?_
    obtain ⟨x22, e23, E⟩ := gb_some E
    refine r_getR X dX3_hikerMissingMost_41 f_X3_29 e23 ?_
    refine r_iload_n X 1 dX3_hikerMissingMost_44 rfl rfl ?_
    obtain ⟨x24, e25, E⟩ := gb_some E
    refine r_aald X 4 (by decide) rfl dX3_hikerMissingMost_45 e25 ?_
    obtain ⟨x26, e27, E⟩ := gb_some E
    refine r_getI X dX3_hikerMissingMost_46 f_X3_111 e27 ?_
    refine r_isub X dX3_hikerMissingMost_49 ?_
    refine r_icmp_le X 55 dX3_hikerMissingMost_50 (by decide) (fun c28 => ?_) (fun c28 => ?_)
    · rw [if_pos c28] at E
      exact r_pick (by rfl : lpick [(0, .ref a0), (1, .int s0.1), (2, .int s0.2)] [0, 1, 2] = _) (t_x3_hikerMissingMost_j55_4 X hl0 hr hnm hc hx E)
    · rw [if_neg c28] at E
      refine r_iload_n X 2 dX3_hikerMissingMost_53 rfl rfl ?_
      refine r_istore_n X 1 (L1 := [(1, .int s0.2), (0, .ref a0), (2, .int s0.2)]) dX3_hikerMissingMost_54 rfl (by decide) rfl ?_
      exact r_pick (by rfl : lpick [(1, .int s0.2), (0, .ref a0), (2, .int s0.2)] [1, 0, 2] = _) (t_x3_hikerMissingMost_j55_4 X hl0 hr hnm hc hx E)
set_option maxHeartbeats 4000000 in
theorem t_x3_hikerMissingMost_l4_r {l : Launch} {G : GG} {M : MC} (X : CX M G cX3_hikerMissingMost 3 RX3 ⟨1, 0, 0, 60⟩) (hl0 : M.2.1 = l) (hr : (mM M).sig.returnType = (some .int)) (hnm : (mM M).name = yX3_hikerMissingMost.name) {Q : State → Prop} {kc ks : Nat} {a0 : Nat} : ∀ (n : Nat) (s0 : Int32 × Int32) (g : AH) (t : (Int32)) (g1 : AH), loopX (x3_hikerMissingMost_l4 a0) n s0 g = some (t, g1) → WW M G 3 Q kc ks g1 61 [(1, .int t)] [] → WW M G 3 Q kc ks g 4 [(0, .ref a0), (1, .int s0.1), (2, .int s0.2)] [] :=
  loop_cps (K := fun t g1 => WW M G 3 Q kc ks g1 61 [(1, .int t)] []) (fun _ s0 g => WW M G 3 Q kc ks g 4 [(0, .ref a0), (1, .int s0.1), (2, .int s0.2)] []) (fun n s0 g st g1 E hc hx => t_x3_hikerMissingMost_l4 X hl0 hr hnm hc hx E)
set_option maxHeartbeats 4000000 in
set_option maxRecDepth 100000 in
theorem t_x3_hikerMissingMost_b {l : Launch} {G : GG} {M : MC} (X : CX M G cX3_hikerMissingMost 3 RX3 ⟨1, 0, 0, 60⟩) (hl0 : M.2.1 = l) (hr : (mM M).sig.returnType = (some .int)) (hnm : (mM M).name = yX3_hikerMissingMost.name) {p : Nat} {g : AH} {r : Int32} {g1 : AH} (E : x3_hikerMissingMost p g = some (r, g1)) : WW M G 3 (RQ M G (some (.int r)) g1 0 0) 0 0 g 0 [(0, .ref p)] [] := by
  unfold x3_hikerMissingMost at E
  refine r_iconst X (v := 0) dX3_hikerMissingMost_0 (by decide) ?_
  refine r_istore_n X 1 (L1 := [(1, .int 0), (0, .ref p)]) dX3_hikerMissingMost_1 rfl (by decide) rfl ?_
  refine r_iconst X (v := 1) dX3_hikerMissingMost_2 (by decide) ?_
  refine r_istore_n X 2 (L1 := [(2, .int 1), (1, .int 0), (0, .ref p)]) dX3_hikerMissingMost_3 rfl (by decide) rfl ?_
  obtain ⟨t1, g2, e3, E⟩ := cb_some E
  refine r_pick (by rfl : lpick [(2, .int 1), (1, .int 0), (0, .ref p)] [2, 1, 0] = _) (t_x3_hikerMissingMost_l4_r X hl0 hr hnm _ _ _ _ _ e3 ?_)
  refine r_iload_n X 1 dX3_hikerMissingMost_61 rfl rfl ?_
  cases E
  exact r_iret X hr dX3_hikerMissingMost_62 (by decide) (by decide)
theorem t_x3_hikerMissingMost {l : Launch} {G : GG} {p : Nat} {g : AH} {r : Int32} {g1 : AH} (E : x3_hikerMissingMost p g = some (r, g1)) : Ct l G yX3_hikerMissingMost cX3_hikerMissingMost 3 (some .int) ⟨1, 0, 0, 60⟩ [.ref p] g (some (.int r)) g1 :=
  ct_of (L0 := [(0, .ref p)]) y_X3_hikerMissingMost rfl (Nat.le_of_ble_eq_true rfl) fun M hl0 X hr hnm => t_x3_hikerMissingMost_b X hl0 hr hnm E
set_option maxHeartbeats 4000000 in
set_option maxRecDepth 100000 in
theorem t_x8_coldestHiker_b {l : Launch} {G : GG} {M : MC} (X : CX M G cX8_coldestHiker 1 RX8 ⟨2, 0, 0, 82⟩) (hl0 : M.2.1 = l) (hr : (mM M).sig.returnType = (some .int)) (hnm : (mM M).name = yX8_coldestHiker.name) {p : Nat} {g : AH} {r : Int32} {g1 : AH} (E : x8_coldestHiker p g = some (r, g1)) : WW M G 1 (RQ M G (some (.int r)) g1 0 0) 0 0 g 0 [(0, .ref p)] [] := by
  unfold x8_coldestHiker at E
  refine r_aload_n X 0 dX8_coldestHiker_0 rfl rfl ?_
  obtain ⟨x1, e2, E⟩ := gb_some E
  refine r_getR X dX8_coldestHiker_1 f_X8_10 e2 ?_
  obtain ⟨u6, e7, E⟩ := gb_some E
  obtain ⟨r3, g4, e5, E⟩ := cb_some E
  refine r_callV0 X hl0 (ci := 3) dX8_coldestHiker_4 y_X3_hikerMissingMost m_X8_265 rfl rfl e7 (t_x3_hikerMissingMost (l := l) (G := G) e5) rfl rfl (Nat.le_of_ble_eq_true rfl) (by decide) ?_
  cases E
  exact r_iret X hr dX8_coldestHiker_7 (by decide) (by decide)
theorem t_x8_coldestHiker {l : Launch} {G : GG} {p : Nat} {g : AH} {r : Int32} {g1 : AH} (E : x8_coldestHiker p g = some (r, g1)) : Ct l G yX8_coldestHiker cX8_coldestHiker 1 (some .int) ⟨2, 0, 0, 82⟩ [.ref p] g (some (.int r)) g1 :=
  ct_of (L0 := [(0, .ref p)]) y_X8_coldestHiker rfl (Nat.le_of_ble_eq_true rfl) fun M hl0 X hr hnm => t_x8_coldestHiker_b X hl0 hr hnm E
set_option maxHeartbeats 4000000 in
set_option maxRecDepth 100000 in
theorem t_x3_hikersLacking_j32_4 {l : Launch} {G : GG} {M : MC} (X : CX M G cX3_hikersLacking 4 RX3 ⟨2, 0, 0, 82⟩) (hl0 : M.2.1 = l) (hr : (mM M).sig.returnType = (some .int)) (hnm : (mM M).name = yX3_hikersLacking.name) {Q : State → Prop} {kc ks : Nat} {s9 : ((Int32 × Int32) ⊕ (Int32))} {g1 : AH} {a0 : Nat} {a1 : Int32} {a2 : Int32} {a3 : Int32} (hc : ∀ s1, s9 = .inl s1 → WW M G 4 Q kc ks g1 4 [(0, .ref a0), (1, .int a1), (2, .int s1.1), (3, .int s1.2)] []) (hx : ∀ t, s9 = .inr t → WW M G 4 Q kc ks g1 38 [(2, .int t)] []) {g : AH} (E : x3_hikersLacking_j32_4 a0 a1 a2 a3 g = some (s9, g1)) : WW M G 4 Q kc ks g 32 [(0, .ref a0), (1, .int a1), (2, .int a2), (3, .int a3)] [] := by
  unfold x3_hikersLacking_j32_4 at E
  refine r_iinc X (v := (a3 + 1)) (L1 := [(3, .int (a3 + 1)), (0, .ref a0), (1, .int a1), (2, .int a2)]) dX3_hikersLacking_32 rfl rfl (by decide) rfl ?_
  refine r_goto X 4 dX3_hikersLacking_35 (by decide) ?_
  cases E
  exact r_pick (by rfl : lpick [(3, .int (a3 + 1)), (0, .ref a0), (1, .int a1), (2, .int a2)] [1, 2, 3, 0] = _) (hc _ rfl)
set_option maxHeartbeats 4000000 in
set_option maxRecDepth 100000 in
theorem t_x3_hikersLacking_l4 {l : Launch} {G : GG} {M : MC} (X : CX M G cX3_hikersLacking 4 RX3 ⟨2, 0, 0, 82⟩) (hl0 : M.2.1 = l) (hr : (mM M).sig.returnType = (some .int)) (hnm : (mM M).name = yX3_hikersLacking.name) {Q : State → Prop} {kc ks : Nat} {s9 : ((Int32 × Int32) ⊕ (Int32))} {g1 : AH} {a0 : Nat} {a1 : Int32} {s0 : Int32 × Int32} (hc : ∀ s1, s9 = .inl s1 → WW M G 4 Q kc ks g1 4 [(0, .ref a0), (1, .int a1), (2, .int s1.1), (3, .int s1.2)] []) (hx : ∀ t, s9 = .inr t → WW M G 4 Q kc ks g1 38 [(2, .int t)] []) {g : AH} (E : x3_hikersLacking_l4 a0 a1 s0 g = some (s9, g1)) : WW M G 4 Q kc ks g 4 [(0, .ref a0), (1, .int a1), (2, .int s0.1), (3, .int s0.2)] [] := by
  unfold x3_hikersLacking_l4 at E
  refine r_iload_n X 3 dX3_hikersLacking_4 rfl rfl ?_
  refine r_aload_n X 0 dX3_hikersLacking_5 rfl rfl ?_
  obtain ⟨x1, e2, E⟩ := gb_some E
  refine r_getI X dX3_hikersLacking_6 f_X3_78 e2 ?_
  refine r_icmp_ge X 38 dX3_hikersLacking_9 (by decide) (fun c3 => ?_) (fun c3 => ?_)
  · rw [if_pos c3] at E
    cases E
    exact r_pick (by rfl : lpick [(0, .ref a0), (1, .int a1), (2, .int s0.1), (3, .int s0.2)] [2] = _) (hx _ rfl)
  · rw [if_neg c3] at E
    refine r_aload_n X 0 dX3_hikersLacking_12 rfl rfl ?_
    obtain ⟨x4, e5, E⟩ := gb_some E
    refine r_getR X dX3_hikersLacking_13 f_X3_29 e5 ?_
    refine r_iload_n X 3 dX3_hikersLacking_16 rfl rfl ?_
    obtain ⟨x6, e7, E⟩ := gb_some E
    refine r_aald X 4 (by decide) rfl dX3_hikersLacking_17 e7 ?_
    obtain ⟨u11, e12, E⟩ := gb_some E
    obtain ⟨r8, g9, e10, E⟩ := cb_some E
    refine r_callV0 X hl0 (ci := 1) dX3_hikersLacking_18 y_X1_lack m_X3_149 rfl rfl e12 (t_x1_lack (l := l) (G := G) e10) rfl rfl (Nat.le_of_ble_eq_true rfl) (by decide) ?_
    refine r_iconst X (v := 1) dX3_hikersLacking_21 (by decide) ?_
    refine r_iload_n X 1 dX3_hikersLacking_22 rfl rfl ?_
    obtain ⟨r13, g14, e15, E⟩ := cb_some E
    refine r_callSN0 X hl0 dX3_hikersLacking_23 y_X8_isWithin (List.mem_of_getElem? (i := 9) rfl) (t_x8_isWithin (l := l) (G := G) e15) rfl rfl (Nat.le_of_ble_eq_true rfl) (by decide) ?_
    refine r_if_eq X 32 dX3_hikersLacking_26 (by decide) (fun c16 => ?_) (fun c16 => ?_)
    · rw [if_pos c16] at E
      exact r_pick (by rfl : lpick [(0, .ref a0), (1, .int a1), (2, .int s0.1), (3, .int s0.2)] [0, 1, 2, 3] = _) (t_x3_hikersLacking_j32_4 X hl0 hr hnm hc hx E)
    · rw [if_neg c16] at E
      refine r_iinc X (v := (s0.1 + 1)) (L1 := [(2, .int (s0.1 + 1)), (0, .ref a0), (1, .int a1), (3, .int s0.2)]) dX3_hikersLacking_29 rfl rfl (by decide) rfl ?_
      exact r_pick (by rfl : lpick [(2, .int (s0.1 + 1)), (0, .ref a0), (1, .int a1), (3, .int s0.2)] [1, 2, 0, 3] = _) (t_x3_hikersLacking_j32_4 X hl0 hr hnm hc hx E)
set_option maxHeartbeats 4000000 in
theorem t_x3_hikersLacking_l4_r {l : Launch} {G : GG} {M : MC} (X : CX M G cX3_hikersLacking 4 RX3 ⟨2, 0, 0, 82⟩) (hl0 : M.2.1 = l) (hr : (mM M).sig.returnType = (some .int)) (hnm : (mM M).name = yX3_hikersLacking.name) {Q : State → Prop} {kc ks : Nat} {a0 : Nat} {a1 : Int32} : ∀ (n : Nat) (s0 : Int32 × Int32) (g : AH) (t : (Int32)) (g1 : AH), loopX (x3_hikersLacking_l4 a0 a1) n s0 g = some (t, g1) → WW M G 4 Q kc ks g1 38 [(2, .int t)] [] → WW M G 4 Q kc ks g 4 [(0, .ref a0), (1, .int a1), (2, .int s0.1), (3, .int s0.2)] [] :=
  loop_cps (K := fun t g1 => WW M G 4 Q kc ks g1 38 [(2, .int t)] []) (fun _ s0 g => WW M G 4 Q kc ks g 4 [(0, .ref a0), (1, .int a1), (2, .int s0.1), (3, .int s0.2)] []) (fun n s0 g st g1 E hc hx => t_x3_hikersLacking_l4 X hl0 hr hnm hc hx E)
set_option maxHeartbeats 4000000 in
set_option maxRecDepth 100000 in
theorem t_x3_hikersLacking_b {l : Launch} {G : GG} {M : MC} (X : CX M G cX3_hikersLacking 4 RX3 ⟨2, 0, 0, 82⟩) (hl0 : M.2.1 = l) (hr : (mM M).sig.returnType = (some .int)) (hnm : (mM M).name = yX3_hikersLacking.name) {p : Nat} {b0 : Int32} {g : AH} {r : Int32} {g1 : AH} (E : x3_hikersLacking p b0 g = some (r, g1)) : WW M G 4 (RQ M G (some (.int r)) g1 0 0) 0 0 g 0 [(0, .ref p), (1, .int b0)] [] := by
  unfold x3_hikersLacking at E
  refine r_iconst X (v := 0) dX3_hikersLacking_0 (by decide) ?_
  refine r_istore_n X 2 (L1 := [(2, .int 0), (0, .ref p), (1, .int b0)]) dX3_hikersLacking_1 rfl (by decide) rfl ?_
  refine r_iconst X (v := 0) dX3_hikersLacking_2 (by decide) ?_
  refine r_istore_n X 3 (L1 := [(3, .int 0), (2, .int 0), (0, .ref p), (1, .int b0)]) dX3_hikersLacking_3 rfl (by decide) rfl ?_
  obtain ⟨t1, g2, e3, E⟩ := cb_some E
  refine r_pick (by rfl : lpick [(3, .int 0), (2, .int 0), (0, .ref p), (1, .int b0)] [2, 3, 1, 0] = _) (t_x3_hikersLacking_l4_r X hl0 hr hnm _ _ _ _ _ e3 ?_)
  refine r_iload_n X 2 dX3_hikersLacking_38 rfl rfl ?_
  cases E
  exact r_iret X hr dX3_hikersLacking_39 (by decide) (by decide)
theorem t_x3_hikersLacking {l : Launch} {G : GG} {p : Nat} {b0 : Int32} {g : AH} {r : Int32} {g1 : AH} (E : x3_hikersLacking p b0 g = some (r, g1)) : Ct l G yX3_hikersLacking cX3_hikersLacking 4 (some .int) ⟨2, 0, 0, 82⟩ [.ref p, .int b0] g (some (.int r)) g1 :=
  ct_of (L0 := [(0, .ref p), (1, .int b0)]) y_X3_hikersLacking rfl (Nat.le_of_ble_eq_true rfl) fun M hl0 X hr hnm => t_x3_hikersLacking_b X hl0 hr hnm E
set_option maxHeartbeats 4000000 in
set_option maxRecDepth 100000 in
theorem t_x3_blanketsOfThickness_j25_4 {l : Launch} {G : GG} {M : MC} (X : CX M G cX3_blanketsOfThickness 4 RX3 ⟨1, 0, 0, 60⟩) (hl0 : M.2.1 = l) (hr : (mM M).sig.returnType = (some .int)) (hnm : (mM M).name = yX3_blanketsOfThickness.name) {Q : State → Prop} {kc ks : Nat} {s9 : ((Int32 × Int32) ⊕ (Int32))} {g1 : AH} {a0 : Nat} {a1 : Int32} {a2 : Int32} {a3 : Int32} (hc : ∀ s1, s9 = .inl s1 → WW M G 4 Q kc ks g1 4 [(0, .ref a0), (1, .int a1), (2, .int s1.1), (3, .int s1.2)] []) (hx : ∀ t, s9 = .inr t → WW M G 4 Q kc ks g1 31 [(2, .int t)] []) {g : AH} (E : x3_blanketsOfThickness_j25_4 a0 a1 a2 a3 g = some (s9, g1)) : WW M G 4 Q kc ks g 25 [(0, .ref a0), (1, .int a1), (2, .int a2), (3, .int a3)] [] := by
  unfold x3_blanketsOfThickness_j25_4 at E
  refine r_iinc X (v := (a3 + 1)) (L1 := [(3, .int (a3 + 1)), (0, .ref a0), (1, .int a1), (2, .int a2)]) dX3_blanketsOfThickness_25 rfl rfl (by decide) rfl ?_
  refine r_goto X 4 dX3_blanketsOfThickness_28 (by decide) ?_
  cases E
  exact r_pick (by rfl : lpick [(3, .int (a3 + 1)), (0, .ref a0), (1, .int a1), (2, .int a2)] [1, 2, 3, 0] = _) (hc _ rfl)
set_option maxHeartbeats 4000000 in
set_option maxRecDepth 100000 in
theorem t_x3_blanketsOfThickness_l4 {l : Launch} {G : GG} {M : MC} (X : CX M G cX3_blanketsOfThickness 4 RX3 ⟨1, 0, 0, 60⟩) (hl0 : M.2.1 = l) (hr : (mM M).sig.returnType = (some .int)) (hnm : (mM M).name = yX3_blanketsOfThickness.name) {Q : State → Prop} {kc ks : Nat} {s9 : ((Int32 × Int32) ⊕ (Int32))} {g1 : AH} {a0 : Nat} {a1 : Int32} {s0 : Int32 × Int32} (hc : ∀ s1, s9 = .inl s1 → WW M G 4 Q kc ks g1 4 [(0, .ref a0), (1, .int a1), (2, .int s1.1), (3, .int s1.2)] []) (hx : ∀ t, s9 = .inr t → WW M G 4 Q kc ks g1 31 [(2, .int t)] []) {g : AH} (E : x3_blanketsOfThickness_l4 a0 a1 s0 g = some (s9, g1)) : WW M G 4 Q kc ks g 4 [(0, .ref a0), (1, .int a1), (2, .int s0.1), (3, .int s0.2)] [] := by
  unfold x3_blanketsOfThickness_l4 at E
  refine r_iload_n X 3 dX3_blanketsOfThickness_4 rfl rfl ?_
  refine r_aload_n X 0 dX3_blanketsOfThickness_5 rfl rfl ?_
  obtain ⟨x1, e2, E⟩ := gb_some E
  refine r_getI X dX3_blanketsOfThickness_6 f_X3_72 e2 ?_
  refine r_icmp_ge X 31 dX3_blanketsOfThickness_9 (by decide) (fun c3 => ?_) (fun c3 => ?_)
  · rw [if_pos c3] at E
    cases E
    exact r_pick (by rfl : lpick [(0, .ref a0), (1, .int a1), (2, .int s0.1), (3, .int s0.2)] [2] = _) (hx _ rfl)
  · rw [if_neg c3] at E
    refine r_aload_n X 0 dX3_blanketsOfThickness_12 rfl rfl ?_
    obtain ⟨x4, e5, E⟩ := gb_some E
    refine r_getR X dX3_blanketsOfThickness_13 f_X3_15 e5 ?_
    refine r_iload_n X 3 dX3_blanketsOfThickness_16 rfl rfl ?_
    obtain ⟨x6, e7, E⟩ := gb_some E
    refine r_iald X dX3_blanketsOfThickness_17 e7 ?_
    refine r_iload_n X 1 dX3_blanketsOfThickness_18 rfl rfl ?_
    refine r_icmp_ne X 25 dX3_blanketsOfThickness_19 (by decide) (fun c8 => ?_) (fun c8 => ?_)
    · rw [if_neg c8] at E
      exact r_pick (by rfl : lpick [(0, .ref a0), (1, .int a1), (2, .int s0.1), (3, .int s0.2)] [0, 1, 2, 3] = _) (t_x3_blanketsOfThickness_j25_4 X hl0 hr hnm hc hx E)
    · rw [if_pos c8] at E
      refine r_iinc X (v := (s0.1 + 1)) (L1 := [(2, .int (s0.1 + 1)), (0, .ref a0), (1, .int a1), (3, .int s0.2)]) dX3_blanketsOfThickness_22 rfl rfl (by decide) rfl ?_
      exact r_pick (by rfl : lpick [(2, .int (s0.1 + 1)), (0, .ref a0), (1, .int a1), (3, .int s0.2)] [1, 2, 0, 3] = _) (t_x3_blanketsOfThickness_j25_4 X hl0 hr hnm hc hx E)
set_option maxHeartbeats 4000000 in
theorem t_x3_blanketsOfThickness_l4_r {l : Launch} {G : GG} {M : MC} (X : CX M G cX3_blanketsOfThickness 4 RX3 ⟨1, 0, 0, 60⟩) (hl0 : M.2.1 = l) (hr : (mM M).sig.returnType = (some .int)) (hnm : (mM M).name = yX3_blanketsOfThickness.name) {Q : State → Prop} {kc ks : Nat} {a0 : Nat} {a1 : Int32} : ∀ (n : Nat) (s0 : Int32 × Int32) (g : AH) (t : (Int32)) (g1 : AH), loopX (x3_blanketsOfThickness_l4 a0 a1) n s0 g = some (t, g1) → WW M G 4 Q kc ks g1 31 [(2, .int t)] [] → WW M G 4 Q kc ks g 4 [(0, .ref a0), (1, .int a1), (2, .int s0.1), (3, .int s0.2)] [] :=
  loop_cps (K := fun t g1 => WW M G 4 Q kc ks g1 31 [(2, .int t)] []) (fun _ s0 g => WW M G 4 Q kc ks g 4 [(0, .ref a0), (1, .int a1), (2, .int s0.1), (3, .int s0.2)] []) (fun n s0 g st g1 E hc hx => t_x3_blanketsOfThickness_l4 X hl0 hr hnm hc hx E)
set_option maxHeartbeats 4000000 in
set_option maxRecDepth 100000 in
theorem t_x3_blanketsOfThickness_b {l : Launch} {G : GG} {M : MC} (X : CX M G cX3_blanketsOfThickness 4 RX3 ⟨1, 0, 0, 60⟩) (hl0 : M.2.1 = l) (hr : (mM M).sig.returnType = (some .int)) (hnm : (mM M).name = yX3_blanketsOfThickness.name) {p : Nat} {b0 : Int32} {g : AH} {r : Int32} {g1 : AH} (E : x3_blanketsOfThickness p b0 g = some (r, g1)) : WW M G 4 (RQ M G (some (.int r)) g1 0 0) 0 0 g 0 [(0, .ref p), (1, .int b0)] [] := by
  unfold x3_blanketsOfThickness at E
  refine r_iconst X (v := 0) dX3_blanketsOfThickness_0 (by decide) ?_
  refine r_istore_n X 2 (L1 := [(2, .int 0), (0, .ref p), (1, .int b0)]) dX3_blanketsOfThickness_1 rfl (by decide) rfl ?_
  refine r_iconst X (v := 0) dX3_blanketsOfThickness_2 (by decide) ?_
  refine r_istore_n X 3 (L1 := [(3, .int 0), (2, .int 0), (0, .ref p), (1, .int b0)]) dX3_blanketsOfThickness_3 rfl (by decide) rfl ?_
  obtain ⟨t1, g2, e3, E⟩ := cb_some E
  refine r_pick (by rfl : lpick [(3, .int 0), (2, .int 0), (0, .ref p), (1, .int b0)] [2, 3, 1, 0] = _) (t_x3_blanketsOfThickness_l4_r X hl0 hr hnm _ _ _ _ _ e3 ?_)
  refine r_iload_n X 2 dX3_blanketsOfThickness_31 rfl rfl ?_
  cases E
  exact r_iret X hr dX3_blanketsOfThickness_32 (by decide) (by decide)
theorem t_x3_blanketsOfThickness {l : Launch} {G : GG} {p : Nat} {b0 : Int32} {g : AH} {r : Int32} {g1 : AH} (E : x3_blanketsOfThickness p b0 g = some (r, g1)) : Ct l G yX3_blanketsOfThickness cX3_blanketsOfThickness 4 (some .int) ⟨1, 0, 0, 60⟩ [.ref p, .int b0] g (some (.int r)) g1 :=
  ct_of (L0 := [(0, .ref p), (1, .int b0)]) y_X3_blanketsOfThickness rfl (Nat.le_of_ble_eq_true rfl) fun M hl0 X hr hnm => t_x3_blanketsOfThickness_b X hl0 hr hnm E
set_option maxHeartbeats 4000000 in
set_option maxRecDepth 100000 in
theorem t_x3_coldIfSharedBest_l4 {l : Launch} {G : GG} {M : MC} (X : CX M G cX3_coldIfSharedBest 4 RX3 ⟨3, 0, 0, 150⟩) (hl0 : M.2.1 = l) (hr : (mM M).sig.returnType = (some .int)) (hnm : (mM M).name = yX3_coldIfSharedBest.name) {Q : State → Prop} {kc ks : Nat} {s9 : ((Int32 × Int32) ⊕ (Int32))} {g1 : AH} {a0 : Nat} {s0 : Int32 × Int32} (hc : ∀ s1, s9 = .inl s1 → WW M G 4 Q kc ks g1 4 [(0, .ref a0), (1, .int s1.1), (2, .int s1.2)] []) (hx : ∀ t, s9 = .inr t → WW M G 4 Q kc ks g1 36 [(0, .ref a0), (1, .int t)] []) {g : AH} (E : x3_coldIfSharedBest_l4 a0 s0 g = some (s9, g1)) : WW M G 4 Q kc ks g 4 [(0, .ref a0), (1, .int s0.1), (2, .int s0.2)] [] := by
  unfold x3_coldIfSharedBest_l4 at E
  refine r_iload_n X 2 dX3_coldIfSharedBest_4 rfl rfl ?_
  refine r_bipush X (v := 9) dX3_coldIfSharedBest_5 (by decide) ?_
  refine r_icmp_gt X 36 dX3_coldIfSharedBest_7 (by decide) (fun c1 => ?_) (fun c1 => ?_)
  · rw [if_pos c1] at E
    cases E
    exact r_pick (by rfl : lpick [(0, .ref a0), (1, .int s0.1), (2, .int s0.2)] [0, 1] = _) (hx _ rfl)
  · rw [if_neg c1] at E
    refine r_aload_n X 0 dX3_coldIfSharedBest_10 rfl rfl ?_
    refine r_iload_n X 2 dX3_coldIfSharedBest_11 rfl rfl ?_
    obtain ⟨u5, e6, E⟩ := gb_some E
    obtain ⟨r2, g3, e4, E⟩ := cb_some E
    refine r_callV0 X hl0 (ci := 3) dX3_coldIfSharedBest_12 y_X3_hikersLacking m_X3_152 rfl rfl e6 (t_x3_hikersLacking (l := l) (G := G) e4) rfl rfl (Nat.le_of_ble_eq_true rfl) (by decide) ?_
    refine r_iload_n X 1 dX3_coldIfSharedBest_15 rfl rfl ?_
    refine r_isub X dX3_coldIfSharedBest_16 ?_
    refine r_istore_n X 3 (L1 := [(3, .int (r2 - s0.1)), (0, .ref a0), (1, .int s0.1), (2, .int s0.2)]) dX3_coldIfSharedBest_17 rfl (by decide) rfl ?_
    refine r_iload_n X 1 dX3_coldIfSharedBest_18 rfl rfl ?_
    refine r_iload_n X 3 dX3_coldIfSharedBest_19 rfl rfl ?_
    refine r_aload_n X 0 dX3_coldIfSharedBest_20 rfl rfl ?_
    refine r_iload_n X 2 dX3_coldIfSharedBest_21 rfl rfl ?_
    obtain ⟨u10, e11, E⟩ := gb_some E
    obtain ⟨r7, g8, e9, E⟩ := cb_some E
    refine r_callV0 X hl0 (ci := 3) dX3_coldIfSharedBest_22 y_X3_blanketsOfThickness m_X3_155 rfl rfl e11 (t_x3_blanketsOfThickness (l := l) (G := G) e9) rfl rfl (Nat.le_of_ble_eq_true rfl) (by decide) ?_
    refine r_min X dX3_coldIfSharedBest_25 m_X3_158m (by decide) (Nat.le_of_ble_eq_true rfl) ?_
    refine r_iadd X dX3_coldIfSharedBest_28 ?_
    refine r_istore_n X 1 (L1 := [(1, .int (s0.1 + (if r7 < (r2 - s0.1) then r7 else (r2 - s0.1)))), (3, .int (r2 - s0.1)), (0, .ref a0), (2, .int s0.2)]) dX3_coldIfSharedBest_29 rfl (by decide) rfl ?_
    refine r_iinc X (v := (s0.2 + 1)) (L1 := [(2, .int (s0.2 + 1)), (1, .int (s0.1 + (if r7 < (r2 - s0.1) then r7 else (r2 - s0.1)))), (3, .int (r2 - s0.1)), (0, .ref a0)]) dX3_coldIfSharedBest_30 rfl rfl (by decide) rfl ?_
    refine r_goto X 4 dX3_coldIfSharedBest_33 (by decide) ?_
    cases E
    exact r_pick (by rfl : lpick [(2, .int (s0.2 + 1)), (1, .int (s0.1 + (if r7 < (r2 - s0.1) then r7 else (r2 - s0.1)))), (3, .int (r2 - s0.1)), (0, .ref a0)] [3, 1, 0] = _) (hc _ rfl)
set_option maxHeartbeats 4000000 in
theorem t_x3_coldIfSharedBest_l4_r {l : Launch} {G : GG} {M : MC} (X : CX M G cX3_coldIfSharedBest 4 RX3 ⟨3, 0, 0, 150⟩) (hl0 : M.2.1 = l) (hr : (mM M).sig.returnType = (some .int)) (hnm : (mM M).name = yX3_coldIfSharedBest.name) {Q : State → Prop} {kc ks : Nat} {a0 : Nat} : ∀ (n : Nat) (s0 : Int32 × Int32) (g : AH) (t : (Int32)) (g1 : AH), loopX (x3_coldIfSharedBest_l4 a0) n s0 g = some (t, g1) → WW M G 4 Q kc ks g1 36 [(0, .ref a0), (1, .int t)] [] → WW M G 4 Q kc ks g 4 [(0, .ref a0), (1, .int s0.1), (2, .int s0.2)] [] :=
  loop_cps (K := fun t g1 => WW M G 4 Q kc ks g1 36 [(0, .ref a0), (1, .int t)] []) (fun _ s0 g => WW M G 4 Q kc ks g 4 [(0, .ref a0), (1, .int s0.1), (2, .int s0.2)] []) (fun n s0 g st g1 E hc hx => t_x3_coldIfSharedBest_l4 X hl0 hr hnm hc hx E)
set_option maxHeartbeats 4000000 in
set_option maxRecDepth 100000 in
theorem t_x3_coldIfSharedBest_b {l : Launch} {G : GG} {M : MC} (X : CX M G cX3_coldIfSharedBest 4 RX3 ⟨3, 0, 0, 150⟩) (hl0 : M.2.1 = l) (hr : (mM M).sig.returnType = (some .int)) (hnm : (mM M).name = yX3_coldIfSharedBest.name) {p : Nat} {g : AH} {r : Int32} {g1 : AH} (E : x3_coldIfSharedBest p g = some (r, g1)) : WW M G 4 (RQ M G (some (.int r)) g1 0 0) 0 0 g 0 [(0, .ref p)] [] := by
  unfold x3_coldIfSharedBest at E
  refine r_iconst X (v := 0) dX3_coldIfSharedBest_0 (by decide) ?_
  refine r_istore_n X 1 (L1 := [(1, .int 0), (0, .ref p)]) dX3_coldIfSharedBest_1 rfl (by decide) rfl ?_
  refine r_iconst X (v := 1) dX3_coldIfSharedBest_2 (by decide) ?_
  refine r_istore_n X 2 (L1 := [(2, .int 1), (1, .int 0), (0, .ref p)]) dX3_coldIfSharedBest_3 rfl (by decide) rfl ?_
  obtain ⟨t1, g2, e3, E⟩ := cb_some E
  refine r_pick (by rfl : lpick [(2, .int 1), (1, .int 0), (0, .ref p)] [2, 1, 0] = _) (t_x3_coldIfSharedBest_l4_r X hl0 hr hnm _ _ _ _ _ e3 ?_)
  refine r_aload_n X 0 dX3_coldIfSharedBest_36 rfl rfl ?_
  refine r_ldcI X dX3_coldIfSharedBest_37 q_X3_163 ?_
  obtain ⟨u7, e8, E⟩ := gb_some E
  obtain ⟨r4, g5, e6, E⟩ := cb_some E
  refine r_callV0 X hl0 (ci := 3) dX3_coldIfSharedBest_39 y_X3_hikersLacking m_X3_152 rfl rfl e8 (t_x3_hikersLacking (l := l) (G := G) e6) rfl rfl (Nat.le_of_ble_eq_true rfl) (by decide) ?_
  refine r_iload_n X 1 dX3_coldIfSharedBest_42 rfl rfl ?_
  refine r_isub X dX3_coldIfSharedBest_43 ?_
  cases E
  exact r_iret X hr dX3_coldIfSharedBest_44 (by decide) (by decide)
theorem t_x3_coldIfSharedBest {l : Launch} {G : GG} {p : Nat} {g : AH} {r : Int32} {g1 : AH} (E : x3_coldIfSharedBest p g = some (r, g1)) : Ct l G yX3_coldIfSharedBest cX3_coldIfSharedBest 4 (some .int) ⟨3, 0, 0, 150⟩ [.ref p] g (some (.int r)) g1 :=
  ct_of (L0 := [(0, .ref p)]) y_X3_coldIfSharedBest rfl (Nat.le_of_ble_eq_true rfl) fun M hl0 X hr hnm => t_x3_coldIfSharedBest_b X hl0 hr hnm E
set_option maxHeartbeats 4000000 in
set_option maxRecDepth 100000 in
theorem t_x8_fewestCold_b {l : Launch} {G : GG} {M : MC} (X : CX M G cX8_fewestCold 1 RX8 ⟨4, 0, 0, 173⟩) (hl0 : M.2.1 = l) (hr : (mM M).sig.returnType = (some .int)) (hnm : (mM M).name = yX8_fewestCold.name) {p : Nat} {g : AH} {r : Int32} {g1 : AH} (E : x8_fewestCold p g = some (r, g1)) : WW M G 1 (RQ M G (some (.int r)) g1 0 0) 0 0 g 0 [(0, .ref p)] [] := by
  unfold x8_fewestCold at E
  refine r_aload_n X 0 dX8_fewestCold_0 rfl rfl ?_
  obtain ⟨x1, e2, E⟩ := gb_some E
  refine r_getR X dX8_fewestCold_1 f_X8_10 e2 ?_
  obtain ⟨u6, e7, E⟩ := gb_some E
  obtain ⟨r3, g4, e5, E⟩ := cb_some E
  refine r_callV0 X hl0 (ci := 3) dX8_fewestCold_4 y_X3_coldIfSharedBest m_X8_268 rfl rfl e7 (t_x3_coldIfSharedBest (l := l) (G := G) e5) rfl rfl (Nat.le_of_ble_eq_true rfl) (by decide) ?_
  cases E
  exact r_iret X hr dX8_fewestCold_7 (by decide) (by decide)
theorem t_x8_fewestCold {l : Launch} {G : GG} {p : Nat} {g : AH} {r : Int32} {g1 : AH} (E : x8_fewestCold p g = some (r, g1)) : Ct l G yX8_fewestCold cX8_fewestCold 1 (some .int) ⟨4, 0, 0, 173⟩ [.ref p] g (some (.int r)) g1 :=
  ct_of (L0 := [(0, .ref p)]) y_X8_fewestCold rfl (Nat.le_of_ble_eq_true rfl) fun M hl0 X hr hnm => t_x8_fewestCold_b X hl0 hr hnm E
set_option maxHeartbeats 4000000 in
set_option maxRecDepth 100000 in
theorem t_x3_savedByExchange_j58 {l : Launch} {G : GG} {M : MC} (X : CX M G cX3_savedByExchange 4 RX3 ⟨2, 0, 0, 80⟩) (hl0 : M.2.1 = l) (hr : (mM M).sig.returnType = (some .int)) (hnm : (mM M).name = yX3_savedByExchange.name) {a2 : Int32} {s0 : Int32} {s1 : Int32} {g : AH} {r : Int32} {g1 : AH} (E : x3_savedByExchange_j58 a2 s0 s1 g = some (r, g1)) : WW M G 4 (RQ M G (some (.int r)) g1 0 0) 0 0 g 58 [(2, .int a2)] [.int s0, .int s1] := by
  unfold x3_savedByExchange_j58 at E
  refine r_iadd X dX3_savedByExchange_58 ?_
  refine r_istore_n X 3 (L1 := [(3, .int (s1 + s0)), (2, .int a2)]) dX3_savedByExchange_59 rfl (by decide) rfl ?_
  refine r_iload_n X 2 dX3_savedByExchange_60 rfl rfl ?_
  refine r_iload_n X 3 dX3_savedByExchange_61 rfl rfl ?_
  refine r_isub X dX3_savedByExchange_62 ?_
  cases E
  exact r_iret X hr dX3_savedByExchange_63 (by decide) (by decide)
set_option maxHeartbeats 4000000 in
set_option maxRecDepth 100000 in
theorem t_x3_savedByExchange_j42 {l : Launch} {G : GG} {M : MC} (X : CX M G cX3_savedByExchange 4 RX3 ⟨2, 0, 0, 80⟩) (hl0 : M.2.1 = l) (hr : (mM M).sig.returnType = (some .int)) (hnm : (mM M).name = yX3_savedByExchange.name) {a0 : Nat} {a1 : Nat} {a2 : Int32} {s0 : Int32} {g : AH} {r : Int32} {g1 : AH} (E : x3_savedByExchange_j42 a0 a1 a2 s0 g = some (r, g1)) : WW M G 4 (RQ M G (some (.int r)) g1 0 0) 0 0 g 42 [(0, .ref a0), (1, .ref a1), (2, .int a2)] [.int s0] := by
  unfold x3_savedByExchange_j42 at E
  refine r_aload_n X 1 dX3_savedByExchange_42 rfl rfl ?_
  obtain ⟨u4, e5, E⟩ := gb_some E
  obtain ⟨r1, g2, e3, E⟩ := cb_some E
  refine r_callV0 X hl0 (ci := 1) dX3_savedByExchange_43 y_X1_lack m_X3_149 rfl rfl e5 (t_x1_lack (l := l) (G := G) e3) rfl rfl (Nat.le_of_ble_eq_true rfl) (by decide) ?_
  refine r_aload_n X 0 dX3_savedByExchange_46 rfl rfl ?_
  obtain ⟨x6, e7, E⟩ := gb_some E
  refine r_getI X dX3_savedByExchange_47 f_X3_101 e7 ?_
  refine r_icmp_le X 57 dX3_savedByExchange_50 (by decide) (fun c8 => ?_) (fun c8 => ?_)
  · rw [if_pos c8] at E
    refine r_iconst X (v := 0) dX3_savedByExchange_57 (by decide) ?_
    exact r_pick (by rfl : lpick [(0, .ref a0), (1, .ref a1), (2, .int a2)] [2] = _) (t_x3_savedByExchange_j58 X hl0 hr hnm E)
  · rw [if_neg c8] at E
    refine r_iconst X (v := 1) dX3_savedByExchange_53 (by decide) ?_
    refine r_goto X 58 dX3_savedByExchange_54 (by decide) ?_
    exact r_pick (by rfl : lpick [(0, .ref a0), (1, .ref a1), (2, .int a2)] [2] = _) (t_x3_savedByExchange_j58 X hl0 hr hnm E)
set_option maxHeartbeats 4000000 in
set_option maxRecDepth 100000 in
theorem t_x3_savedByExchange_j24 {l : Launch} {G : GG} {M : MC} (X : CX M G cX3_savedByExchange 4 RX3 ⟨2, 0, 0, 80⟩) (hl0 : M.2.1 = l) (hr : (mM M).sig.returnType = (some .int)) (hnm : (mM M).name = yX3_savedByExchange.name) {a0 : Nat} {a1 : Nat} {s0 : Int32} {s1 : Int32} {g : AH} {r : Int32} {g1 : AH} (E : x3_savedByExchange_j24 a0 a1 s0 s1 g = some (r, g1)) : WW M G 4 (RQ M G (some (.int r)) g1 0 0) 0 0 g 24 [(0, .ref a0), (1, .ref a1)] [.int s0, .int s1] := by
  unfold x3_savedByExchange_j24 at E
  refine r_iadd X dX3_savedByExchange_24 ?_
  refine r_istore_n X 2 (L1 := [(2, .int (s1 + s0)), (0, .ref a0), (1, .ref a1)]) dX3_savedByExchange_25 rfl (by decide) rfl ?_
  refine r_aload_n X 0 dX3_savedByExchange_26 rfl rfl ?_
  obtain ⟨u4, e5, E⟩ := gb_some E
  obtain ⟨r1, g2, e3, E⟩ := cb_some E
  refine r_callV0 X hl0 (ci := 1) dX3_savedByExchange_27 y_X1_lack m_X3_149 rfl rfl e5 (t_x1_lack (l := l) (G := G) e3) rfl rfl (Nat.le_of_ble_eq_true rfl) (by decide) ?_
  refine r_aload_n X 1 dX3_savedByExchange_30 rfl rfl ?_
  obtain ⟨x6, e7, E⟩ := gb_some E
  refine r_getI X dX3_savedByExchange_31 f_X3_101 e7 ?_
  refine r_icmp_le X 41 dX3_savedByExchange_34 (by decide) (fun c8 => ?_) (fun c8 => ?_)
  · rw [if_pos c8] at E
    refine r_iconst X (v := 0) dX3_savedByExchange_41 (by decide) ?_
    exact r_pick (by rfl : lpick [(2, .int (s1 + s0)), (0, .ref a0), (1, .ref a1)] [1, 2, 0] = _) (t_x3_savedByExchange_j42 X hl0 hr hnm E)
  · rw [if_neg c8] at E
    refine r_iconst X (v := 1) dX3_savedByExchange_37 (by decide) ?_
    refine r_goto X 42 dX3_savedByExchange_38 (by decide) ?_
    exact r_pick (by rfl : lpick [(2, .int (s1 + s0)), (0, .ref a0), (1, .ref a1)] [1, 2, 0] = _) (t_x3_savedByExchange_j42 X hl0 hr hnm E)
set_option maxHeartbeats 4000000 in
set_option maxRecDepth 100000 in
theorem t_x3_savedByExchange_j12 {l : Launch} {G : GG} {M : MC} (X : CX M G cX3_savedByExchange 4 RX3 ⟨2, 0, 0, 80⟩) (hl0 : M.2.1 = l) (hr : (mM M).sig.returnType = (some .int)) (hnm : (mM M).name = yX3_savedByExchange.name) {a0 : Nat} {a1 : Nat} {s0 : Int32} {g : AH} {r : Int32} {g1 : AH} (E : x3_savedByExchange_j12 a0 a1 s0 g = some (r, g1)) : WW M G 4 (RQ M G (some (.int r)) g1 0 0) 0 0 g 12 [(0, .ref a0), (1, .ref a1)] [.int s0] := by
  unfold x3_savedByExchange_j12 at E
  refine r_aload_n X 1 dX3_savedByExchange_12 rfl rfl ?_
  obtain ⟨u4, e5, E⟩ := gb_some E
  obtain ⟨r1, g2, e3, E⟩ := cb_some E
  refine r_callV0 X hl0 (ci := 1) dX3_savedByExchange_13 y_X1_isCold m_X3_117 rfl rfl e5 (t_x1_isCold (l := l) (G := G) e3) rfl rfl (Nat.le_of_ble_eq_true rfl) (by decide) ?_
  refine r_if_eq X 23 dX3_savedByExchange_16 (by decide) (fun c6 => ?_) (fun c6 => ?_)
  · rw [if_pos c6] at E
    refine r_iconst X (v := 0) dX3_savedByExchange_23 (by decide) ?_
    exact r_pick (by rfl : lpick [(0, .ref a0), (1, .ref a1)] [0, 1] = _) (t_x3_savedByExchange_j24 X hl0 hr hnm E)
  · rw [if_neg c6] at E
    refine r_iconst X (v := 1) dX3_savedByExchange_19 (by decide) ?_
    refine r_goto X 24 dX3_savedByExchange_20 (by decide) ?_
    exact r_pick (by rfl : lpick [(0, .ref a0), (1, .ref a1)] [0, 1] = _) (t_x3_savedByExchange_j24 X hl0 hr hnm E)
set_option maxHeartbeats 4000000 in
set_option maxRecDepth 100000 in
theorem t_x3_savedByExchange_b {l : Launch} {G : GG} {M : MC} (X : CX M G cX3_savedByExchange 4 RX3 ⟨2, 0, 0, 80⟩) (hl0 : M.2.1 = l) (hr : (mM M).sig.returnType = (some .int)) (hnm : (mM M).name = yX3_savedByExchange.name) {b0 : Nat} {b1 : Nat} {g : AH} {r : Int32} {g1 : AH} (E : x3_savedByExchange b0 b1 g = some (r, g1)) : WW M G 4 (RQ M G (some (.int r)) g1 0 0) 0 0 g 0 [(0, .ref b0), (1, .ref b1)] [] := by
  unfold x3_savedByExchange at E
  refine r_aload_n X 0 dX3_savedByExchange_0 rfl rfl ?_
  obtain ⟨u4, e5, E⟩ := gb_some E
  obtain ⟨r1, g2, e3, E⟩ := cb_some E
  refine r_callV0 X hl0 (ci := 1) dX3_savedByExchange_1 y_X1_isCold m_X3_117 rfl rfl e5 (t_x1_isCold (l := l) (G := G) e3) rfl rfl (Nat.le_of_ble_eq_true rfl) (by decide) ?_
  refine r_if_eq X 11 dX3_savedByExchange_4 (by decide) (fun c6 => ?_) (fun c6 => ?_)
  · rw [if_pos c6] at E
    refine r_iconst X (v := 0) dX3_savedByExchange_11 (by decide) ?_
    exact r_pick (by rfl : lpick [(0, .ref b0), (1, .ref b1)] [0, 1] = _) (t_x3_savedByExchange_j12 X hl0 hr hnm E)
  · rw [if_neg c6] at E
    refine r_iconst X (v := 1) dX3_savedByExchange_7 (by decide) ?_
    refine r_goto X 12 dX3_savedByExchange_8 (by decide) ?_
    exact r_pick (by rfl : lpick [(0, .ref b0), (1, .ref b1)] [0, 1] = _) (t_x3_savedByExchange_j12 X hl0 hr hnm E)
theorem t_x3_savedByExchange {l : Launch} {G : GG} {b0 : Nat} {b1 : Nat} {g : AH} {r : Int32} {g1 : AH} (E : x3_savedByExchange b0 b1 g = some (r, g1)) : Ct l G yX3_savedByExchange cX3_savedByExchange 4 (some .int) ⟨2, 0, 0, 80⟩ [.ref b0, .ref b1] g (some (.int r)) g1 :=
  ct_of (L0 := [(0, .ref b0), (1, .ref b1)]) y_X3_savedByExchange rfl (Nat.le_of_ble_eq_true rfl) fun M hl0 X hr hnm => t_x3_savedByExchange_b X hl0 hr hnm E
set_option maxHeartbeats 4000000 in
set_option maxRecDepth 100000 in
theorem t_x3_exchangeForFewestCold_j63_19 {l : Launch} {G : GG} {M : MC} (X : CX M G cX3_exchangeForFewestCold 6 RX3 ⟨3, 0, 0, 103⟩) (hl0 : M.2.1 = l) (hr : (mM M).sig.returnType = (some .int)) (hnm : (mM M).name = yX3_exchangeForFewestCold.name) {Q : State → Prop} {kc ks : Nat} {s9 : ((Int32 × Int32 × Int32) ⊕ (Int32 × Int32))} {g1 : AH} {a0 : Nat} {a1 : Int32} {a2 : Int32} {a3 : Int32} {a4 : Int32} (hc : ∀ s1, s9 = .inl s1 → WW M G 6 Q kc ks g1 19 [(0, .ref a0), (1, .int s1.1), (2, .int s1.2.1), (3, .int a3), (4, .int s1.2.2)] []) (hx : ∀ t, s9 = .inr t → WW M G 6 Q kc ks g1 69 [(0, .ref a0), (1, .int t.1), (2, .int t.2), (3, .int a3)] []) {g : AH} (E : x3_exchangeForFewestCold_j63_19 a0 a1 a2 a3 a4 g = some (s9, g1)) : WW M G 6 Q kc ks g 63 [(0, .ref a0), (1, .int a1), (2, .int a2), (3, .int a3), (4, .int a4)] [] := by
  unfold x3_exchangeForFewestCold_j63_19 at E
  refine r_iinc X (v := (a4 + 1)) (L1 := [(4, .int (a4 + 1)), (0, .ref a0), (1, .int a1), (2, .int a2), (3, .int a3)]) dX3_exchangeForFewestCold_63 rfl rfl (by decide) rfl ?_
  refine r_goto X 19 dX3_exchangeForFewestCold_66 (by decide) ?_
  cases E
  exact r_pick (by rfl : lpick [(4, .int (a4 + 1)), (0, .ref a0), (1, .int a1), (2, .int a2), (3, .int a3)] [1, 2, 3, 4, 0] = _) (hc _ rfl)
set_option maxHeartbeats 4000000 in
set_option maxRecDepth 100000 in
theorem t_x3_exchangeForFewestCold_l19 {l : Launch} {G : GG} {M : MC} (X : CX M G cX3_exchangeForFewestCold 6 RX3 ⟨3, 0, 0, 103⟩) (hl0 : M.2.1 = l) (hr : (mM M).sig.returnType = (some .int)) (hnm : (mM M).name = yX3_exchangeForFewestCold.name) {Q : State → Prop} {kc ks : Nat} {s9 : ((Int32 × Int32 × Int32) ⊕ (Int32 × Int32))} {g1 : AH} {a0 : Nat} {a3 : Int32} {s0 : Int32 × Int32 × Int32} (hc : ∀ s1, s9 = .inl s1 → WW M G 6 Q kc ks g1 19 [(0, .ref a0), (1, .int s1.1), (2, .int s1.2.1), (3, .int a3), (4, .int s1.2.2)] []) (hx : ∀ t, s9 = .inr t → WW M G 6 Q kc ks g1 69 [(0, .ref a0), (1, .int t.1), (2, .int t.2), (3, .int a3)] []) {g : AH} (E : x3_exchangeForFewestCold_l19 a0 a3 s0 g = some (s9, g1)) : WW M G 6 Q kc ks g 19 [(0, .ref a0), (1, .int s0.1), (2, .int s0.2.1), (3, .int a3), (4, .int s0.2.2)] [] := by
  unfold x3_exchangeForFewestCold_l19 at E
  refine r_iload X dX3_exchangeForFewestCold_19 rfl ?_
  refine r_aload_n X 0 dX3_exchangeForFewestCold_21 rfl rfl ?_
  obtain ⟨x1, e2, E⟩ := gb_some E
  refine r_getI X dX3_exchangeForFewestCold_22 f_X3_78 e2 ?_
  refine r_icmp_ge X 69 dX3_exchangeForFewestCold_25 (by decide) (fun c3 => ?_) (fun c3 => ?_)
  · rw [if_pos c3] at E
    cases E
    exact r_pick (by rfl : lpick [(0, .ref a0), (1, .int s0.1), (2, .int s0.2.1), (3, .int a3), (4, .int s0.2.2)] [0, 1, 2, 3] = _) (hx _ rfl)
  · rw [if_neg c3] at E
    refine r_aload_n X 0 dX3_exchangeForFewestCold_28 rfl rfl ?_
    obtain ⟨x4, e5, E⟩ := gb_some E
    refine r_getR X dX3_exchangeForFewestCold_29 f_X3_29 e5 ?_
    refine r_iload_n X 3 dX3_exchangeForFewestCold_32 rfl rfl ?_
    obtain ⟨x6, e7, E⟩ := gb_some E
    refine r_aald X 4 (by decide) rfl dX3_exchangeForFewestCold_33 e7 ?_
    refine r_aload_n X 0 dX3_exchangeForFewestCold_34 rfl rfl ?_
    obtain ⟨x8, e9, E⟩ := gb_some E
    refine r_getR X dX3_exchangeForFewestCold_35 f_X3_29 e9 ?_
    refine r_iload X dX3_exchangeForFewestCold_38 rfl ?_
    obtain ⟨x10, e11, E⟩ := gb_some E
    refine r_aald X 4 (by decide) rfl dX3_exchangeForFewestCold_40 e11 ?_
    obtain ⟨r12, g13, e14, E⟩ := cb_some E
    refine r_callS0 X hl0 dX3_exchangeForFewestCold_41 y_X3_savedByExchange m_X3_168 (t_x3_savedByExchange (l := l) (G := G) e14) rfl rfl (Nat.le_of_ble_eq_true rfl) (by decide) ?_
    refine r_istore X (L1 := [(5, .int r12), (0, .ref a0), (1, .int s0.1), (2, .int s0.2.1), (3, .int a3), (4, .int s0.2.2)]) dX3_exchangeForFewestCold_44 (by decide) rfl ?_
    refine r_iload X dX3_exchangeForFewestCold_46 rfl ?_
    refine r_iload_n X 2 dX3_exchangeForFewestCold_48 rfl rfl ?_
    refine r_icmp_le X 63 dX3_exchangeForFewestCold_49 (by decide) (fun c15 => ?_) (fun c15 => ?_)
    · rw [if_pos c15] at E
      exact r_pick (by rfl : lpick [(5, .int r12), (0, .ref a0), (1, .int s0.1), (2, .int s0.2.1), (3, .int a3), (4, .int s0.2.2)] [1, 2, 3, 4, 5] = _) (t_x3_exchangeForFewestCold_j63_19 X hl0 hr hnm hc hx E)
    · rw [if_neg c15] at E
      refine r_iload X dX3_exchangeForFewestCold_52 rfl ?_
      refine r_istore_n X 2 (L1 := [(2, .int r12), (5, .int r12), (0, .ref a0), (1, .int s0.1), (3, .int a3), (4, .int s0.2.2)]) dX3_exchangeForFewestCold_54 rfl (by decide) rfl ?_
      refine r_bipush X (v := 10) dX3_exchangeForFewestCold_55 (by decide) ?_
      refine r_iload_n X 3 dX3_exchangeForFewestCold_57 rfl rfl ?_
      refine r_imul X dX3_exchangeForFewestCold_58 ?_
      refine r_iload X dX3_exchangeForFewestCold_59 rfl ?_
      refine r_iadd X dX3_exchangeForFewestCold_61 ?_
      refine r_istore_n X 1 (L1 := [(1, .int ((10 * a3) + s0.2.2)), (2, .int r12), (5, .int r12), (0, .ref a0), (3, .int a3), (4, .int s0.2.2)]) dX3_exchangeForFewestCold_62 rfl (by decide) rfl ?_
      exact r_pick (by rfl : lpick [(1, .int ((10 * a3) + s0.2.2)), (2, .int r12), (5, .int r12), (0, .ref a0), (3, .int a3), (4, .int s0.2.2)] [3, 0, 1, 4, 5] = _) (t_x3_exchangeForFewestCold_j63_19 X hl0 hr hnm hc hx E)
set_option maxHeartbeats 4000000 in
theorem t_x3_exchangeForFewestCold_l19_r {l : Launch} {G : GG} {M : MC} (X : CX M G cX3_exchangeForFewestCold 6 RX3 ⟨3, 0, 0, 103⟩) (hl0 : M.2.1 = l) (hr : (mM M).sig.returnType = (some .int)) (hnm : (mM M).name = yX3_exchangeForFewestCold.name) {Q : State → Prop} {kc ks : Nat} {a0 : Nat} {a3 : Int32} : ∀ (n : Nat) (s0 : Int32 × Int32 × Int32) (g : AH) (t : (Int32 × Int32)) (g1 : AH), loopX (x3_exchangeForFewestCold_l19 a0 a3) n s0 g = some (t, g1) → WW M G 6 Q kc ks g1 69 [(0, .ref a0), (1, .int t.1), (2, .int t.2), (3, .int a3)] [] → WW M G 6 Q kc ks g 19 [(0, .ref a0), (1, .int s0.1), (2, .int s0.2.1), (3, .int a3), (4, .int s0.2.2)] [] :=
  loop_cps (K := fun t g1 => WW M G 6 Q kc ks g1 69 [(0, .ref a0), (1, .int t.1), (2, .int t.2), (3, .int a3)] []) (fun _ s0 g => WW M G 6 Q kc ks g 19 [(0, .ref a0), (1, .int s0.1), (2, .int s0.2.1), (3, .int a3), (4, .int s0.2.2)] []) (fun n s0 g st g1 E hc hx => t_x3_exchangeForFewestCold_l19 X hl0 hr hnm hc hx E)
set_option maxHeartbeats 4000000 in
set_option maxRecDepth 100000 in
theorem t_x3_exchangeForFewestCold_l6 {l : Launch} {G : GG} {M : MC} (X : CX M G cX3_exchangeForFewestCold 6 RX3 ⟨3, 0, 0, 103⟩) (hl0 : M.2.1 = l) (hr : (mM M).sig.returnType = (some .int)) (hnm : (mM M).name = yX3_exchangeForFewestCold.name) {Q : State → Prop} {kc ks : Nat} {s9 : ((Int32 × Int32 × Int32) ⊕ (Int32))} {g1 : AH} {a0 : Nat} {s0 : Int32 × Int32 × Int32} (hc : ∀ s1, s9 = .inl s1 → WW M G 6 Q kc ks g1 6 [(0, .ref a0), (1, .int s1.1), (2, .int s1.2.1), (3, .int s1.2.2)] []) (hx : ∀ t, s9 = .inr t → WW M G 6 Q kc ks g1 75 [(1, .int t)] []) {g : AH} (E : x3_exchangeForFewestCold_l6 a0 s0 g = some (s9, g1)) : WW M G 6 Q kc ks g 6 [(0, .ref a0), (1, .int s0.1), (2, .int s0.2.1), (3, .int s0.2.2)] [] := by
  unfold x3_exchangeForFewestCold_l6 at E
  refine r_iload_n X 3 dX3_exchangeForFewestCold_6 rfl rfl ?_
  refine r_aload_n X 0 dX3_exchangeForFewestCold_7 rfl rfl ?_
  obtain ⟨x1, e2, E⟩ := gb_some E
  refine r_getI X dX3_exchangeForFewestCold_8 f_X3_78 e2 ?_
  refine r_icmp_ge X 75 dX3_exchangeForFewestCold_11 (by decide) (fun c3 => ?_) (fun c3 => ?_)
  · rw [if_pos c3] at E
    cases E
    exact r_pick (by rfl : lpick [(0, .ref a0), (1, .int s0.1), (2, .int s0.2.1), (3, .int s0.2.2)] [1] = _) (hx _ rfl)
  · rw [if_neg c3] at E
    refine r_iload_n X 3 dX3_exchangeForFewestCold_14 rfl rfl ?_
    refine r_iconst X (v := 1) dX3_exchangeForFewestCold_15 (by decide) ?_
    refine r_iadd X dX3_exchangeForFewestCold_16 ?_
    refine r_istore X (L1 := [(4, .int (s0.2.2 + 1)), (0, .ref a0), (1, .int s0.1), (2, .int s0.2.1), (3, .int s0.2.2)]) dX3_exchangeForFewestCold_17 (by decide) rfl ?_
    obtain ⟨t4, g5, e6, E⟩ := cb_some E
    refine r_pick (by rfl : lpick [(4, .int (s0.2.2 + 1)), (0, .ref a0), (1, .int s0.1), (2, .int s0.2.1), (3, .int s0.2.2)] [1, 2, 3, 4, 0] = _) (t_x3_exchangeForFewestCold_l19_r X hl0 hr hnm _ _ _ _ _ e6 ?_)
    refine r_iinc X (v := (s0.2.2 + 1)) (L1 := [(3, .int (s0.2.2 + 1)), (0, .ref a0), (1, .int t4.1), (2, .int t4.2)]) dX3_exchangeForFewestCold_69 rfl rfl (by decide) rfl ?_
    refine r_goto X 6 dX3_exchangeForFewestCold_72 (by decide) ?_
    cases E
    exact r_pick (by rfl : lpick [(3, .int (s0.2.2 + 1)), (0, .ref a0), (1, .int t4.1), (2, .int t4.2)] [1, 2, 3, 0] = _) (hc _ rfl)
set_option maxHeartbeats 4000000 in
theorem t_x3_exchangeForFewestCold_l6_r {l : Launch} {G : GG} {M : MC} (X : CX M G cX3_exchangeForFewestCold 6 RX3 ⟨3, 0, 0, 103⟩) (hl0 : M.2.1 = l) (hr : (mM M).sig.returnType = (some .int)) (hnm : (mM M).name = yX3_exchangeForFewestCold.name) {Q : State → Prop} {kc ks : Nat} {a0 : Nat} : ∀ (n : Nat) (s0 : Int32 × Int32 × Int32) (g : AH) (t : (Int32)) (g1 : AH), loopX (x3_exchangeForFewestCold_l6 a0) n s0 g = some (t, g1) → WW M G 6 Q kc ks g1 75 [(1, .int t)] [] → WW M G 6 Q kc ks g 6 [(0, .ref a0), (1, .int s0.1), (2, .int s0.2.1), (3, .int s0.2.2)] [] :=
  loop_cps (K := fun t g1 => WW M G 6 Q kc ks g1 75 [(1, .int t)] []) (fun _ s0 g => WW M G 6 Q kc ks g 6 [(0, .ref a0), (1, .int s0.1), (2, .int s0.2.1), (3, .int s0.2.2)] []) (fun n s0 g st g1 E hc hx => t_x3_exchangeForFewestCold_l6 X hl0 hr hnm hc hx E)
set_option maxHeartbeats 4000000 in
set_option maxRecDepth 100000 in
theorem t_x3_exchangeForFewestCold_b {l : Launch} {G : GG} {M : MC} (X : CX M G cX3_exchangeForFewestCold 6 RX3 ⟨3, 0, 0, 103⟩) (hl0 : M.2.1 = l) (hr : (mM M).sig.returnType = (some .int)) (hnm : (mM M).name = yX3_exchangeForFewestCold.name) {p : Nat} {g : AH} {r : Int32} {g1 : AH} (E : x3_exchangeForFewestCold p g = some (r, g1)) : WW M G 6 (RQ M G (some (.int r)) g1 0 0) 0 0 g 0 [(0, .ref p)] [] := by
  unfold x3_exchangeForFewestCold at E
  refine r_iconst X (v := (-1)) dX3_exchangeForFewestCold_0 (by decide) ?_
  refine r_istore_n X 1 (L1 := [(1, .int (-1)), (0, .ref p)]) dX3_exchangeForFewestCold_1 rfl (by decide) rfl ?_
  refine r_iconst X (v := 0) dX3_exchangeForFewestCold_2 (by decide) ?_
  refine r_istore_n X 2 (L1 := [(2, .int 0), (1, .int (-1)), (0, .ref p)]) dX3_exchangeForFewestCold_3 rfl (by decide) rfl ?_
  refine r_iconst X (v := 0) dX3_exchangeForFewestCold_4 (by decide) ?_
  refine r_istore_n X 3 (L1 := [(3, .int 0), (2, .int 0), (1, .int (-1)), (0, .ref p)]) dX3_exchangeForFewestCold_5 rfl (by decide) rfl ?_
  obtain ⟨t1, g2, e3, E⟩ := cb_some E
  refine r_pick (by rfl : lpick [(3, .int 0), (2, .int 0), (1, .int (-1)), (0, .ref p)] [3, 2, 1, 0] = _) (t_x3_exchangeForFewestCold_l6_r X hl0 hr hnm _ _ _ _ _ e3 ?_)
  refine r_iload_n X 1 dX3_exchangeForFewestCold_75 rfl rfl ?_
  cases E
  exact r_iret X hr dX3_exchangeForFewestCold_76 (by decide) (by decide)
theorem t_x3_exchangeForFewestCold {l : Launch} {G : GG} {p : Nat} {g : AH} {r : Int32} {g1 : AH} (E : x3_exchangeForFewestCold p g = some (r, g1)) : Ct l G yX3_exchangeForFewestCold cX3_exchangeForFewestCold 6 (some .int) ⟨3, 0, 0, 103⟩ [.ref p] g (some (.int r)) g1 :=
  ct_of (L0 := [(0, .ref p)]) y_X3_exchangeForFewestCold rfl (Nat.le_of_ble_eq_true rfl) fun M hl0 X hr hnm => t_x3_exchangeForFewestCold_b X hl0 hr hnm E
set_option maxHeartbeats 4000000 in
set_option maxRecDepth 100000 in
theorem t_x8_bestExchange_b {l : Launch} {G : GG} {M : MC} (X : CX M G cX8_bestExchange 1 RX8 ⟨4, 0, 0, 128⟩) (hl0 : M.2.1 = l) (hr : (mM M).sig.returnType = (some .int)) (hnm : (mM M).name = yX8_bestExchange.name) {p : Nat} {g : AH} {r : Int32} {g1 : AH} (E : x8_bestExchange p g = some (r, g1)) : WW M G 1 (RQ M G (some (.int r)) g1 0 0) 0 0 g 0 [(0, .ref p)] [] := by
  unfold x8_bestExchange at E
  refine r_aload_n X 0 dX8_bestExchange_0 rfl rfl ?_
  obtain ⟨x1, e2, E⟩ := gb_some E
  refine r_getR X dX8_bestExchange_1 f_X8_10 e2 ?_
  obtain ⟨u6, e7, E⟩ := gb_some E
  obtain ⟨r3, g4, e5, E⟩ := cb_some E
  refine r_callV0 X hl0 (ci := 3) dX8_bestExchange_4 y_X3_exchangeForFewestCold m_X8_271 rfl rfl e7 (t_x3_exchangeForFewestCold (l := l) (G := G) e5) rfl rfl (Nat.le_of_ble_eq_true rfl) (by decide) ?_
  cases E
  exact r_iret X hr dX8_bestExchange_7 (by decide) (by decide)
theorem t_x8_bestExchange {l : Launch} {G : GG} {p : Nat} {g : AH} {r : Int32} {g1 : AH} (E : x8_bestExchange p g = some (r, g1)) : Ct l G yX8_bestExchange cX8_bestExchange 1 (some .int) ⟨4, 0, 0, 128⟩ [.ref p] g (some (.int r)) g1 :=
  ct_of (L0 := [(0, .ref p)]) y_X8_bestExchange rfl (Nat.le_of_ble_eq_true rfl) fun M hl0 X hr hnm => t_x8_bestExchange_b X hl0 hr hnm E
set_option maxHeartbeats 4000000 in
set_option maxRecDepth 100000 in
theorem t_x5_bunkForMostWarmth_j111_19 {l : Launch} {G : GG} {M : MC} (X : CX M G cX5_bunkForMostWarmth 9 RX5 ⟨5, 0, 0, 193⟩) (hl0 : M.2.1 = l) (hr : (mM M).sig.returnType = (some .int)) (hnm : (mM M).name = yX5_bunkForMostWarmth.name) {Q : State → Prop} {kc ks : Nat} {s9 : ((Int32 × Int32 × Int32 × Int32) ⊕ (Int32))} {g1 : AH} {a0 : Nat} {a1 : Nat} {a2 : Int32} {a3 : Int32} {a4 : Int32} {a5 : Int32} {a6 : Int32} (hc : ∀ s1, s9 = .inl s1 → WW M G 9 Q kc ks g1 19 [(0, .ref a0), (1, .ref a1), (2, .int a2), (3, .int s1.1), (4, .int s1.2.1), (5, .int s1.2.2.1), (6, .int s1.2.2.2)] []) (hx : ∀ t, s9 = .inr t → WW M G 9 Q kc ks g1 117 [(3, .int t)] []) {g : AH} (E : x5_bunkForMostWarmth_j111_19 a0 a1 a2 a3 a4 a5 a6 g = some (s9, g1)) : WW M G 9 Q kc ks g 111 [(0, .ref a0), (1, .ref a1), (2, .int a2), (3, .int a3), (4, .int a4), (5, .int a5), (6, .int a6)] [] := by
  unfold x5_bunkForMostWarmth_j111_19 at E
  refine r_iinc X (v := (a6 + 1)) (L1 := [(6, .int (a6 + 1)), (0, .ref a0), (1, .ref a1), (2, .int a2), (3, .int a3), (4, .int a4), (5, .int a5)]) dX5_bunkForMostWarmth_111 rfl rfl (by decide) rfl ?_
  refine r_goto X 19 dX5_bunkForMostWarmth_114 (by decide) ?_
  cases E
  exact r_pick (by rfl : lpick [(6, .int (a6 + 1)), (0, .ref a0), (1, .ref a1), (2, .int a2), (3, .int a3), (4, .int a4), (5, .int a5)] [1, 2, 3, 4, 5, 6, 0] = _) (hc _ rfl)
set_option maxHeartbeats 4000000 in
set_option maxRecDepth 100000 in
theorem t_x5_bunkForMostWarmth_j100_19 {l : Launch} {G : GG} {M : MC} (X : CX M G cX5_bunkForMostWarmth 9 RX5 ⟨5, 0, 0, 193⟩) (hl0 : M.2.1 = l) (hr : (mM M).sig.returnType = (some .int)) (hnm : (mM M).name = yX5_bunkForMostWarmth.name) {Q : State → Prop} {kc ks : Nat} {s9 : ((Int32 × Int32 × Int32 × Int32) ⊕ (Int32))} {g1 : AH} {a0 : Nat} {a1 : Nat} {a2 : Int32} {a6 : Int32} {a7 : Int32} {a8 : Int32} (hc : ∀ s1, s9 = .inl s1 → WW M G 9 Q kc ks g1 19 [(0, .ref a0), (1, .ref a1), (2, .int a2), (3, .int s1.1), (4, .int s1.2.1), (5, .int s1.2.2.1), (6, .int s1.2.2.2)] []) (hx : ∀ t, s9 = .inr t → WW M G 9 Q kc ks g1 117 [(3, .int t)] []) {g : AH} (E : x5_bunkForMostWarmth_j100_19 a0 a1 a2 a6 a7 a8 g = some (s9, g1)) : WW M G 9 Q kc ks g 100 [(0, .ref a0), (1, .ref a1), (2, .int a2), (6, .int a6), (7, .int a7), (8, .int a8)] [] := by
  unfold x5_bunkForMostWarmth_j100_19 at E
  refine r_iload X dX5_bunkForMostWarmth_100 rfl ?_
  refine r_istore_n X 3 (L1 := [(3, .int a6), (0, .ref a0), (1, .ref a1), (2, .int a2), (6, .int a6), (7, .int a7), (8, .int a8)]) dX5_bunkForMostWarmth_102 rfl (by decide) rfl ?_
  refine r_iload X dX5_bunkForMostWarmth_103 rfl ?_
  refine r_istore X (L1 := [(4, .int a7), (3, .int a6), (0, .ref a0), (1, .ref a1), (2, .int a2), (6, .int a6), (7, .int a7), (8, .int a8)]) dX5_bunkForMostWarmth_105 (by decide) rfl ?_
  refine r_iload X dX5_bunkForMostWarmth_107 rfl ?_
  refine r_istore X (L1 := [(5, .int a8), (4, .int a7), (3, .int a6), (0, .ref a0), (1, .ref a1), (2, .int a2), (6, .int a6), (7, .int a7), (8, .int a8)]) dX5_bunkForMostWarmth_109 (by decide) rfl ?_
  exact r_pick (by rfl : lpick [(5, .int a8), (4, .int a7), (3, .int a6), (0, .ref a0), (1, .ref a1), (2, .int a2), (6, .int a6), (7, .int a7), (8, .int a8)] [3, 4, 5, 2, 1, 0, 6] = _) (t_x5_bunkForMostWarmth_j111_19 X hl0 hr hnm hc hx E)
set_option maxHeartbeats 4000000 in
set_option maxRecDepth 100000 in
theorem t_x5_bunkForMostWarmth_l19 {l : Launch} {G : GG} {M : MC} (X : CX M G cX5_bunkForMostWarmth 9 RX5 ⟨5, 0, 0, 193⟩) (hl0 : M.2.1 = l) (hr : (mM M).sig.returnType = (some .int)) (hnm : (mM M).name = yX5_bunkForMostWarmth.name) {Q : State → Prop} {kc ks : Nat} {s9 : ((Int32 × Int32 × Int32 × Int32) ⊕ (Int32))} {g1 : AH} {a0 : Nat} {a1 : Nat} {a2 : Int32} {s0 : Int32 × Int32 × Int32 × Int32} (hc : ∀ s1, s9 = .inl s1 → WW M G 9 Q kc ks g1 19 [(0, .ref a0), (1, .ref a1), (2, .int a2), (3, .int s1.1), (4, .int s1.2.1), (5, .int s1.2.2.1), (6, .int s1.2.2.2)] []) (hx : ∀ t, s9 = .inr t → WW M G 9 Q kc ks g1 117 [(3, .int t)] []) {g : AH} (E : x5_bunkForMostWarmth_l19 a0 a1 a2 s0 g = some (s9, g1)) : WW M G 9 Q kc ks g 19 [(0, .ref a0), (1, .ref a1), (2, .int a2), (3, .int s0.1), (4, .int s0.2.1), (5, .int s0.2.2.1), (6, .int s0.2.2.2)] [] := by
  unfold x5_bunkForMostWarmth_l19 at E
  refine r_iload X dX5_bunkForMostWarmth_19 rfl ?_
  refine r_aload_n X 1 dX5_bunkForMostWarmth_21 rfl rfl ?_
  obtain ⟨x1, e2, E⟩ := gb_some E
  refine r_getI X dX5_bunkForMostWarmth_22 f_X5_30 e2 ?_
  refine r_icmp_ge X 117 dX5_bunkForMostWarmth_25 (by decide) (fun c3 => ?_) (fun c3 => ?_)
  · rw [if_pos c3] at E
    cases E
    exact r_pick (by rfl : lpick [(0, .ref a0), (1, .ref a1), (2, .int a2), (3, .int s0.1), (4, .int s0.2.1), (5, .int s0.2.2.1), (6, .int s0.2.2.2)] [3] = _) (hx _ rfl)
  · rw [if_neg c3] at E
    refine r_aload_n X 1 dX5_bunkForMostWarmth_28 rfl rfl ?_
    refine r_iload_n X 2 dX5_bunkForMostWarmth_29 rfl rfl ?_
    refine r_iload X dX5_bunkForMostWarmth_30 rfl ?_
    obtain ⟨r4, g5, e6, E⟩ := cb_some E
    refine r_callS0 X hl0 dX5_bunkForMostWarmth_32 y_X5_isFreeFor m_X5_34 (t_x5_isFreeFor (l := l) (G := G) e6) rfl rfl (Nat.le_of_ble_eq_true rfl) (by decide) ?_
    refine r_if_eq X 111 dX5_bunkForMostWarmth_35 (by decide) (fun c7 => ?_) (fun c7 => ?_)
    · rw [if_pos c7] at E
      exact r_pick (by rfl : lpick [(0, .ref a0), (1, .ref a1), (2, .int a2), (3, .int s0.1), (4, .int s0.2.1), (5, .int s0.2.2.1), (6, .int s0.2.2.2)] [0, 1, 2, 3, 4, 5, 6] = _) (t_x5_bunkForMostWarmth_j111_19 X hl0 hr hnm hc hx E)
    · rw [if_neg c7] at E
      refine r_aload_n X 0 dX5_bunkForMostWarmth_38 rfl rfl ?_
      obtain ⟨x8, e9, E⟩ := gb_some E
      refine r_getR X dX5_bunkForMostWarmth_39 f_X5_12 e9 ?_
      refine r_iload_n X 2 dX5_bunkForMostWarmth_42 rfl rfl ?_
      refine r_iload X dX5_bunkForMostWarmth_43 rfl ?_
      obtain ⟨u13, e14, E⟩ := gb_some E
      obtain ⟨r10, g11, e12, E⟩ := cb_some E
      refine r_callV0 X hl0 (ci := 3) dX5_bunkForMostWarmth_45 y_X3_moveTo m_X5_22 rfl rfl e14 (t_x3_moveTo (l := l) (G := G) e12) rfl rfl (Nat.le_of_ble_eq_true rfl) (by decide) ?_
      refine r_pop X dX5_bunkForMostWarmth_48 rfl ?_
      refine r_aload_n X 0 dX5_bunkForMostWarmth_49 rfl rfl ?_
      obtain ⟨x15, e16, E⟩ := gb_some E
      refine r_getR X dX5_bunkForMostWarmth_50 f_X5_12 e16 ?_
      obtain ⟨x17, e18, E⟩ := gb_some E
      refine r_getR X dX5_bunkForMostWarmth_53 f_X5_38 e18 ?_
      refine r_iload_n X 2 dX5_bunkForMostWarmth_56 rfl rfl ?_
      obtain ⟨x19, e20, E⟩ := gb_some E
      refine r_aald X 4 (by decide) rfl dX5_bunkForMostWarmth_57 e20 ?_
      obtain ⟨x21, e22, E⟩ := gb_some E
      refine r_getI X dX5_bunkForMostWarmth_58 f_X5_42 e22 ?_
      refine r_istore X (L1 := [(7, .int x21), (0, .ref a0), (1, .ref a1), (2, .int a2), (3, .int s0.1), (4, .int s0.2.1), (5, .int s0.2.2.1), (6, .int s0.2.2.2)]) dX5_bunkForMostWarmth_61 (by decide) rfl ?_
      refine r_aload_n X 0 dX5_bunkForMostWarmth_63 rfl rfl ?_
      obtain ⟨x23, e24, E⟩ := gb_some E
      refine r_getR X dX5_bunkForMostWarmth_64 f_X5_12 e24 ?_
      refine r_iload X dX5_bunkForMostWarmth_67 rfl ?_
      obtain ⟨u28, e29, E⟩ := gb_some E
      obtain ⟨r25, g26, e27, E⟩ := cb_some E
      refine r_callV0 X hl0 (ci := 3) dX5_bunkForMostWarmth_69 y_X3_noiseAt m_X5_47 rfl rfl e29 (t_x3_noiseAt (l := l) (G := G) e27) rfl rfl (Nat.le_of_ble_eq_true rfl) (by decide) ?_
      refine r_istore X (L1 := [(8, .int r25), (7, .int x21), (0, .ref a0), (1, .ref a1), (2, .int a2), (3, .int s0.1), (4, .int s0.2.1), (5, .int s0.2.2.1), (6, .int s0.2.2.2)]) dX5_bunkForMostWarmth_72 (by decide) rfl ?_
      refine r_iload_n X 3 dX5_bunkForMostWarmth_74 rfl rfl ?_
      refine r_iconst X (v := (-1)) dX5_bunkForMostWarmth_75 (by decide) ?_
      refine r_icmp_eq X 100 dX5_bunkForMostWarmth_76 (by decide) (fun c30 => ?_) (fun c30 => ?_)
      · rw [if_pos c30] at E
        exact r_pick (by rfl : lpick [(8, .int r25), (7, .int x21), (0, .ref a0), (1, .ref a1), (2, .int a2), (3, .int s0.1), (4, .int s0.2.1), (5, .int s0.2.2.1), (6, .int s0.2.2.2)] [2, 3, 4, 8, 1, 0] = _) (t_x5_bunkForMostWarmth_j100_19 X hl0 hr hnm hc hx E)
      · rw [if_neg c30] at E
        refine r_iload X dX5_bunkForMostWarmth_79 rfl ?_
        refine r_iload X dX5_bunkForMostWarmth_81 rfl ?_
        refine r_icmp_gt X 100 dX5_bunkForMostWarmth_83 (by decide) (fun c31 => ?_) (fun c31 => ?_)
        · rw [if_pos c31] at E
          exact r_pick (by rfl : lpick [(8, .int r25), (7, .int x21), (0, .ref a0), (1, .ref a1), (2, .int a2), (3, .int s0.1), (4, .int s0.2.1), (5, .int s0.2.2.1), (6, .int s0.2.2.2)] [2, 3, 4, 8, 1, 0] = _) (t_x5_bunkForMostWarmth_j100_19 X hl0 hr hnm hc hx E)
        · rw [if_neg c31] at E
          refine r_iload X dX5_bunkForMostWarmth_86 rfl ?_
          refine r_iload X dX5_bunkForMostWarmth_88 rfl ?_
          refine r_icmp_ne X 111 dX5_bunkForMostWarmth_90 (by decide) (fun c32 => ?_) (fun c32 => ?_)
          · rw [if_neg c32] at E
            exact r_pick (by rfl : lpick [(8, .int r25), (7, .int x21), (0, .ref a0), (1, .ref a1), (2, .int a2), (3, .int s0.1), (4, .int s0.2.1), (5, .int s0.2.2.1), (6, .int s0.2.2.2)] [2, 3, 4, 5, 6, 7, 8] = _) (t_x5_bunkForMostWarmth_j111_19 X hl0 hr hnm hc hx E)
          · rw [if_pos c32] at E
            refine r_iload X dX5_bunkForMostWarmth_93 rfl ?_
            refine r_iload X dX5_bunkForMostWarmth_95 rfl ?_
            refine r_icmp_ge X 111 dX5_bunkForMostWarmth_97 (by decide) (fun c33 => ?_) (fun c33 => ?_)
            · rw [if_pos c33] at E
              exact r_pick (by rfl : lpick [(8, .int r25), (7, .int x21), (0, .ref a0), (1, .ref a1), (2, .int a2), (3, .int s0.1), (4, .int s0.2.1), (5, .int s0.2.2.1), (6, .int s0.2.2.2)] [2, 3, 4, 5, 6, 7, 8] = _) (t_x5_bunkForMostWarmth_j111_19 X hl0 hr hnm hc hx E)
            · rw [if_neg c33] at E
              exact r_pick (by rfl : lpick [(8, .int r25), (7, .int x21), (0, .ref a0), (1, .ref a1), (2, .int a2), (3, .int s0.1), (4, .int s0.2.1), (5, .int s0.2.2.1), (6, .int s0.2.2.2)] [2, 3, 4, 8, 1, 0] = _) (t_x5_bunkForMostWarmth_j100_19 X hl0 hr hnm hc hx E)
set_option maxHeartbeats 4000000 in
theorem t_x5_bunkForMostWarmth_l19_r {l : Launch} {G : GG} {M : MC} (X : CX M G cX5_bunkForMostWarmth 9 RX5 ⟨5, 0, 0, 193⟩) (hl0 : M.2.1 = l) (hr : (mM M).sig.returnType = (some .int)) (hnm : (mM M).name = yX5_bunkForMostWarmth.name) {Q : State → Prop} {kc ks : Nat} {a0 : Nat} {a1 : Nat} {a2 : Int32} : ∀ (n : Nat) (s0 : Int32 × Int32 × Int32 × Int32) (g : AH) (t : (Int32)) (g1 : AH), loopX (x5_bunkForMostWarmth_l19 a0 a1 a2) n s0 g = some (t, g1) → WW M G 9 Q kc ks g1 117 [(3, .int t)] [] → WW M G 9 Q kc ks g 19 [(0, .ref a0), (1, .ref a1), (2, .int a2), (3, .int s0.1), (4, .int s0.2.1), (5, .int s0.2.2.1), (6, .int s0.2.2.2)] [] :=
  loop_cps (K := fun t g1 => WW M G 9 Q kc ks g1 117 [(3, .int t)] []) (fun _ s0 g => WW M G 9 Q kc ks g 19 [(0, .ref a0), (1, .ref a1), (2, .int a2), (3, .int s0.1), (4, .int s0.2.1), (5, .int s0.2.2.1), (6, .int s0.2.2.2)] []) (fun n s0 g st g1 E hc hx => t_x5_bunkForMostWarmth_l19 X hl0 hr hnm hc hx E)
set_option maxHeartbeats 4000000 in
set_option maxRecDepth 100000 in
theorem t_x5_bunkForMostWarmth_b {l : Launch} {G : GG} {M : MC} (X : CX M G cX5_bunkForMostWarmth 9 RX5 ⟨5, 0, 0, 193⟩) (hl0 : M.2.1 = l) (hr : (mM M).sig.returnType = (some .int)) (hnm : (mM M).name = yX5_bunkForMostWarmth.name) {p : Nat} {b0 : Nat} {b1 : Int32} {g : AH} {r : Int32} {g1 : AH} (E : x5_bunkForMostWarmth p b0 b1 g = some (r, g1)) : WW M G 9 (RQ M G (some (.int r)) g1 0 0) 0 0 g 0 [(0, .ref p), (1, .ref b0), (2, .int b1)] [] := by
  unfold x5_bunkForMostWarmth at E
  refine r_aload_n X 0 dX5_bunkForMostWarmth_0 rfl rfl ?_
  obtain ⟨x1, e2, E⟩ := gb_some E
  refine r_getR X dX5_bunkForMostWarmth_1 f_X5_12 e2 ?_
  refine r_aload_n X 1 dX5_bunkForMostWarmth_4 rfl rfl ?_
  obtain ⟨u6, e7, E⟩ := gb_some E
  obtain ⟨r3, g4, e5, E⟩ := cb_some E
  refine r_callV0 X hl0 (ci := 3) dX5_bunkForMostWarmth_5 y_X3_copyFrom m_X5_18 rfl rfl e7 (t_x3_copyFrom (l := l) (G := G) e5) rfl rfl (Nat.le_of_ble_eq_true rfl) (by decide) ?_
  refine r_iconst X (v := (-1)) dX5_bunkForMostWarmth_8 (by decide) ?_
  refine r_istore_n X 3 (L1 := [(3, .int (-1)), (0, .ref p), (1, .ref b0), (2, .int b1)]) dX5_bunkForMostWarmth_9 rfl (by decide) rfl ?_
  refine r_iconst X (v := 0) dX5_bunkForMostWarmth_10 (by decide) ?_
  refine r_istore X (L1 := [(4, .int 0), (3, .int (-1)), (0, .ref p), (1, .ref b0), (2, .int b1)]) dX5_bunkForMostWarmth_11 (by decide) rfl ?_
  refine r_iconst X (v := 0) dX5_bunkForMostWarmth_13 (by decide) ?_
  refine r_istore X (L1 := [(5, .int 0), (4, .int 0), (3, .int (-1)), (0, .ref p), (1, .ref b0), (2, .int b1)]) dX5_bunkForMostWarmth_14 (by decide) rfl ?_
  refine r_iconst X (v := 0) dX5_bunkForMostWarmth_16 (by decide) ?_
  refine r_istore X (L1 := [(6, .int 0), (5, .int 0), (4, .int 0), (3, .int (-1)), (0, .ref p), (1, .ref b0), (2, .int b1)]) dX5_bunkForMostWarmth_17 (by decide) rfl ?_
  obtain ⟨t8, g9, e10, E⟩ := cb_some E
  refine r_pick (by rfl : lpick [(6, .int 0), (5, .int 0), (4, .int 0), (3, .int (-1)), (0, .ref p), (1, .ref b0), (2, .int b1)] [4, 5, 6, 3, 2, 1, 0] = _) (t_x5_bunkForMostWarmth_l19_r X hl0 hr hnm _ _ _ _ _ e10 ?_)
  refine r_iload_n X 3 dX5_bunkForMostWarmth_117 rfl rfl ?_
  cases E
  exact r_iret X hr dX5_bunkForMostWarmth_118 (by decide) (by decide)
theorem t_x5_bunkForMostWarmth {l : Launch} {G : GG} {p : Nat} {b0 : Nat} {b1 : Int32} {g : AH} {r : Int32} {g1 : AH} (E : x5_bunkForMostWarmth p b0 b1 g = some (r, g1)) : Ct l G yX5_bunkForMostWarmth cX5_bunkForMostWarmth 9 (some .int) ⟨5, 0, 0, 193⟩ [.ref p, .ref b0, .int b1] g (some (.int r)) g1 :=
  ct_of (L0 := [(0, .ref p), (1, .ref b0), (2, .int b1)]) y_X5_bunkForMostWarmth rfl (Nat.le_of_ble_eq_true rfl) fun M hl0 X hr hnm => t_x5_bunkForMostWarmth_b X hl0 hr hnm E
set_option maxHeartbeats 4000000 in
set_option maxRecDepth 100000 in
theorem t_x8_warmestBunk_b {l : Launch} {G : GG} {M : MC} (X : CX M G cX8_warmestBunk 2 RX8 ⟨8, 1, 6, 221⟩) (hl0 : M.2.1 = l) (hr : (mM M).sig.returnType = (some .int)) (hnm : (mM M).name = yX8_warmestBunk.name) (hnt : ∀ x ∈ (mC M).exceptionTable.toList, False) (hst : l.stackTraces = false) {p : Nat} {b0 : Int32} {g : AH} {o : (Int32 ⊕ String)} {g1 : AH} (E : x8_warmestBunk p b0 g = some (o, g1)) : WW M G 2 (RX M G (ovI o) g1 1 6) 0 0 g 0 [(0, .ref p), (1, .int b0)] [] := by
  unfold x8_warmestBunk at E
  refine r_aload_n X 0 dX8_warmestBunk_0 rfl rfl ?_
  refine r_iload_n X 1 dX8_warmestBunk_1 rfl rfl ?_
  obtain ⟨u4, e5, E⟩ := gb_some E
  obtain ⟨r1, g2, e3, E⟩ := cb_some E
  rcases r1 with v6 | w7
  · rw [Sum.elim_inl] at E
    refine r_callVX X hl0 (ci := 8) dX8_warmestBunk_2 y_X8_demandHiker m_X8_181 rfl rfl e5 (t_x8_demandHiker (l := l) hst (G := G) e3) rfl rfl (Nat.le_of_ble_eq_true rfl) (by decide) ?_
    refine r_aload_n X 0 dX8_warmestBunk_5 rfl rfl ?_
    obtain ⟨x8, e9, E⟩ := gb_some E
    refine r_getR X dX8_warmestBunk_6 f_X8_22 e9 ?_
    refine r_aload_n X 0 dX8_warmestBunk_9 rfl rfl ?_
    obtain ⟨x10, e11, E⟩ := gb_some E
    refine r_getR X dX8_warmestBunk_10 f_X8_10 e11 ?_
    refine r_iload_n X 1 dX8_warmestBunk_13 rfl rfl ?_
    obtain ⟨u15, e16, E⟩ := gb_some E
    obtain ⟨r12, g13, e14, E⟩ := cb_some E
    refine r_callV0 X hl0 (ci := 5) dX8_warmestBunk_14 y_X5_bunkForMostWarmth m_X8_274 rfl rfl e16 (t_x5_bunkForMostWarmth (l := l) (G := G) e14) rfl rfl (Nat.le_of_ble_eq_true rfl) (by decide) ?_
    cases E
    exact r_ret (r_iret X hr dX8_warmestBunk_17 (by decide) (by decide))
  · rw [Sum.elim_inr] at E
    cases E
    exact r_thrV X hl0 hnt (ci := 8) dX8_warmestBunk_2 y_X8_demandHiker m_X8_181 rfl rfl e5 (t_x8_demandHiker (l := l) hst (G := G) e3) rfl rfl (Nat.le_of_ble_eq_true rfl) (by decide) (by decide) (by decide)
theorem t_x8_warmestBunk {l : Launch} (hst : l.stackTraces = false) {G : GG} {p : Nat} {b0 : Int32} {g : AH} {o : (Int32 ⊕ String)} {g1 : AH} (E : x8_warmestBunk p b0 g = some (o, g1)) : CtX l G yX8_warmestBunk cX8_warmestBunk 2 (some .int) ⟨8, 1, 6, 221⟩ [.ref p, .int b0] g (ovI o) g1 :=
  ctX_of (L0 := [(0, .ref p), (1, .int b0)]) y_X8_warmestBunk rfl (Nat.le_of_ble_eq_true rfl) fun M hl0 X hr hnm hnt => t_x8_warmestBunk_b X hl0 hr hnm hnt hst E
set_option maxHeartbeats 4000000 in
set_option maxRecDepth 100000 in
theorem t_x8_hutCoins_b {l : Launch} {G : GG} {M : MC} (X : CX M G cX8_hutCoins 1 RX8 ⟨1, 0, 0, 60⟩) (hl0 : M.2.1 = l) (hr : (mM M).sig.returnType = (some .int)) (hnm : (mM M).name = yX8_hutCoins.name) {p : Nat} {g : AH} {r : Int32} {g1 : AH} (E : x8_hutCoins p g = some (r, g1)) : WW M G 1 (RQ M G (some (.int r)) g1 0 0) 0 0 g 0 [(0, .ref p)] [] := by
  unfold x8_hutCoins at E
  refine r_aload_n X 0 dX8_hutCoins_0 rfl rfl ?_
  obtain ⟨x1, e2, E⟩ := gb_some E
  refine r_getR X dX8_hutCoins_1 f_X8_10 e2 ?_
  obtain ⟨x3, e4, E⟩ := gb_some E
  refine r_getI X dX8_hutCoins_4 f_X8_277 e4 ?_
  cases E
  exact r_iret X hr dX8_hutCoins_7 (by decide) (by decide)
theorem t_x8_hutCoins {l : Launch} {G : GG} {p : Nat} {g : AH} {r : Int32} {g1 : AH} (E : x8_hutCoins p g = some (r, g1)) : Ct l G yX8_hutCoins cX8_hutCoins 1 (some .int) ⟨1, 0, 0, 60⟩ [.ref p] g (some (.int r)) g1 :=
  ct_of (L0 := [(0, .ref p)]) y_X8_hutCoins rfl (Nat.le_of_ble_eq_true rfl) fun M hl0 X hr hnm => t_x8_hutCoins_b X hl0 hr hnm E
set_option maxHeartbeats 4000000 in
set_option maxRecDepth 100000 in
theorem t_x8_burnedLogs_b {l : Launch} {G : GG} {M : MC} (X : CX M G cX8_burnedLogs 1 RX8 ⟨1, 0, 0, 60⟩) (hl0 : M.2.1 = l) (hr : (mM M).sig.returnType = (some .int)) (hnm : (mM M).name = yX8_burnedLogs.name) {p : Nat} {g : AH} {r : Int32} {g1 : AH} (E : x8_burnedLogs p g = some (r, g1)) : WW M G 1 (RQ M G (some (.int r)) g1 0 0) 0 0 g 0 [(0, .ref p)] [] := by
  unfold x8_burnedLogs at E
  refine r_aload_n X 0 dX8_burnedLogs_0 rfl rfl ?_
  obtain ⟨x1, e2, E⟩ := gb_some E
  refine r_getR X dX8_burnedLogs_1 f_X8_10 e2 ?_
  obtain ⟨x3, e4, E⟩ := gb_some E
  refine r_getI X dX8_burnedLogs_4 f_X8_280 e4 ?_
  cases E
  exact r_iret X hr dX8_burnedLogs_7 (by decide) (by decide)
theorem t_x8_burnedLogs {l : Launch} {G : GG} {p : Nat} {g : AH} {r : Int32} {g1 : AH} (E : x8_burnedLogs p g = some (r, g1)) : Ct l G yX8_burnedLogs cX8_burnedLogs 1 (some .int) ⟨1, 0, 0, 60⟩ [.ref p] g (some (.int r)) g1 :=
  ct_of (L0 := [(0, .ref p)]) y_X8_burnedLogs rfl (Nat.le_of_ble_eq_true rfl) fun M hl0 X hr hnm => t_x8_burnedLogs_b X hl0 hr hnm E
set_option maxHeartbeats 4000000 in
set_option maxRecDepth 100000 in
theorem t_x3_sumOfDebts_l4 {l : Launch} {G : GG} {M : MC} (X : CX M G cX3_sumOfDebts 3 RX3 ⟨1, 0, 0, 60⟩) (hl0 : M.2.1 = l) (hr : (mM M).sig.returnType = (some .int)) (hnm : (mM M).name = yX3_sumOfDebts.name) {Q : State → Prop} {kc ks : Nat} {s9 : ((Int32 × Int32) ⊕ (Int32))} {g1 : AH} {a0 : Nat} {s0 : Int32 × Int32} (hc : ∀ s1, s9 = .inl s1 → WW M G 3 Q kc ks g1 4 [(0, .ref a0), (1, .int s1.1), (2, .int s1.2)] []) (hx : ∀ t, s9 = .inr t → WW M G 3 Q kc ks g1 30 [(1, .int t)] []) {g : AH} (E : x3_sumOfDebts_l4 a0 s0 g = some (s9, g1)) : WW M G 3 Q kc ks g 4 [(0, .ref a0), (1, .int s0.1), (2, .int s0.2)] [] := by
  unfold x3_sumOfDebts_l4 at E
  refine r_iload_n X 2 dX3_sumOfDebts_4 rfl rfl ?_
  refine r_aload_n X 0 dX3_sumOfDebts_5 rfl rfl ?_
  obtain ⟨x1, e2, E⟩ := gb_some E
  refine r_getI X dX3_sumOfDebts_6 f_X3_78 e2 ?_
  refine r_icmp_ge X 30 dX3_sumOfDebts_9 (by decide) (fun c3 => ?_) (fun c3 => ?_)
  · rw [if_pos c3] at E
    cases E
    exact r_pick (by rfl : lpick [(0, .ref a0), (1, .int s0.1), (2, .int s0.2)] [1] = _) (hx _ rfl)
  · rw [if_neg c3] at E
    refine r_iload_n X 1 dX3_sumOfDebts_12 rfl rfl ?_
    refine r_aload_n X 0 dX3_sumOfDebts_13 rfl rfl ?_
    obtain ⟨x4, e5, E⟩ := gb_some E
    refine r_getR X dX3_sumOfDebts_14 f_X3_29 e5 ?_
    refine r_iload_n X 2 dX3_sumOfDebts_17 rfl rfl ?_
    obtain ⟨x6, e7, E⟩ := gb_some E
    refine r_aald X 4 (by decide) rfl dX3_sumOfDebts_18 e7 ?_
    obtain ⟨x8, e9, E⟩ := gb_some E
    refine r_getI X dX3_sumOfDebts_19 f_X3_191 e9 ?_
    refine r_iadd X dX3_sumOfDebts_22 ?_
    refine r_istore_n X 1 (L1 := [(1, .int (s0.1 + x8)), (0, .ref a0), (2, .int s0.2)]) dX3_sumOfDebts_23 rfl (by decide) rfl ?_
    refine r_iinc X (v := (s0.2 + 1)) (L1 := [(2, .int (s0.2 + 1)), (1, .int (s0.1 + x8)), (0, .ref a0)]) dX3_sumOfDebts_24 rfl rfl (by decide) rfl ?_
    refine r_goto X 4 dX3_sumOfDebts_27 (by decide) ?_
    cases E
    exact r_pick (by rfl : lpick [(2, .int (s0.2 + 1)), (1, .int (s0.1 + x8)), (0, .ref a0)] [2, 1, 0] = _) (hc _ rfl)
set_option maxHeartbeats 4000000 in
theorem t_x3_sumOfDebts_l4_r {l : Launch} {G : GG} {M : MC} (X : CX M G cX3_sumOfDebts 3 RX3 ⟨1, 0, 0, 60⟩) (hl0 : M.2.1 = l) (hr : (mM M).sig.returnType = (some .int)) (hnm : (mM M).name = yX3_sumOfDebts.name) {Q : State → Prop} {kc ks : Nat} {a0 : Nat} : ∀ (n : Nat) (s0 : Int32 × Int32) (g : AH) (t : (Int32)) (g1 : AH), loopX (x3_sumOfDebts_l4 a0) n s0 g = some (t, g1) → WW M G 3 Q kc ks g1 30 [(1, .int t)] [] → WW M G 3 Q kc ks g 4 [(0, .ref a0), (1, .int s0.1), (2, .int s0.2)] [] :=
  loop_cps (K := fun t g1 => WW M G 3 Q kc ks g1 30 [(1, .int t)] []) (fun _ s0 g => WW M G 3 Q kc ks g 4 [(0, .ref a0), (1, .int s0.1), (2, .int s0.2)] []) (fun n s0 g st g1 E hc hx => t_x3_sumOfDebts_l4 X hl0 hr hnm hc hx E)
set_option maxHeartbeats 4000000 in
set_option maxRecDepth 100000 in
theorem t_x3_sumOfDebts_b {l : Launch} {G : GG} {M : MC} (X : CX M G cX3_sumOfDebts 3 RX3 ⟨1, 0, 0, 60⟩) (hl0 : M.2.1 = l) (hr : (mM M).sig.returnType = (some .int)) (hnm : (mM M).name = yX3_sumOfDebts.name) {p : Nat} {g : AH} {r : Int32} {g1 : AH} (E : x3_sumOfDebts p g = some (r, g1)) : WW M G 3 (RQ M G (some (.int r)) g1 0 0) 0 0 g 0 [(0, .ref p)] [] := by
  unfold x3_sumOfDebts at E
  refine r_iconst X (v := 0) dX3_sumOfDebts_0 (by decide) ?_
  refine r_istore_n X 1 (L1 := [(1, .int 0), (0, .ref p)]) dX3_sumOfDebts_1 rfl (by decide) rfl ?_
  refine r_iconst X (v := 0) dX3_sumOfDebts_2 (by decide) ?_
  refine r_istore_n X 2 (L1 := [(2, .int 0), (1, .int 0), (0, .ref p)]) dX3_sumOfDebts_3 rfl (by decide) rfl ?_
  obtain ⟨t1, g2, e3, E⟩ := cb_some E
  refine r_pick (by rfl : lpick [(2, .int 0), (1, .int 0), (0, .ref p)] [2, 1, 0] = _) (t_x3_sumOfDebts_l4_r X hl0 hr hnm _ _ _ _ _ e3 ?_)
  refine r_iload_n X 1 dX3_sumOfDebts_30 rfl rfl ?_
  cases E
  exact r_iret X hr dX3_sumOfDebts_31 (by decide) (by decide)
theorem t_x3_sumOfDebts {l : Launch} {G : GG} {p : Nat} {g : AH} {r : Int32} {g1 : AH} (E : x3_sumOfDebts p g = some (r, g1)) : Ct l G yX3_sumOfDebts cX3_sumOfDebts 3 (some .int) ⟨1, 0, 0, 60⟩ [.ref p] g (some (.int r)) g1 :=
  ct_of (L0 := [(0, .ref p)]) y_X3_sumOfDebts rfl (Nat.le_of_ble_eq_true rfl) fun M hl0 X hr hnm => t_x3_sumOfDebts_b X hl0 hr hnm E
set_option maxHeartbeats 4000000 in
set_option maxRecDepth 100000 in
theorem t_x8_totalDebt_b {l : Launch} {G : GG} {M : MC} (X : CX M G cX8_totalDebt 1 RX8 ⟨2, 0, 0, 82⟩) (hl0 : M.2.1 = l) (hr : (mM M).sig.returnType = (some .int)) (hnm : (mM M).name = yX8_totalDebt.name) {p : Nat} {g : AH} {r : Int32} {g1 : AH} (E : x8_totalDebt p g = some (r, g1)) : WW M G 1 (RQ M G (some (.int r)) g1 0 0) 0 0 g 0 [(0, .ref p)] [] := by
  unfold x8_totalDebt at E
  refine r_aload_n X 0 dX8_totalDebt_0 rfl rfl ?_
  obtain ⟨x1, e2, E⟩ := gb_some E
  refine r_getR X dX8_totalDebt_1 f_X8_10 e2 ?_
  obtain ⟨u6, e7, E⟩ := gb_some E
  obtain ⟨r3, g4, e5, E⟩ := cb_some E
  refine r_callV0 X hl0 (ci := 3) dX8_totalDebt_4 y_X3_sumOfDebts m_X8_283 rfl rfl e7 (t_x3_sumOfDebts (l := l) (G := G) e5) rfl rfl (Nat.le_of_ble_eq_true rfl) (by decide) ?_
  cases E
  exact r_iret X hr dX8_totalDebt_7 (by decide) (by decide)
theorem t_x8_totalDebt {l : Launch} {G : GG} {p : Nat} {g : AH} {r : Int32} {g1 : AH} (E : x8_totalDebt p g = some (r, g1)) : Ct l G yX8_totalDebt cX8_totalDebt 1 (some .int) ⟨2, 0, 0, 82⟩ [.ref p] g (some (.int r)) g1 :=
  ct_of (L0 := [(0, .ref p)]) y_X8_totalDebt rfl (Nat.le_of_ble_eq_true rfl) fun M hl0 X hr hnm => t_x8_totalDebt_b X hl0 hr hnm E
set_option maxHeartbeats 4000000 in
set_option maxRecDepth 100000 in
theorem t_x3_thingsUsedTwice_j106_16 {l : Launch} {G : GG} {M : MC} (X : CX M G cX3_thingsUsedTwice 4 RX3 ⟨1, 0, 0, 60⟩) (hl0 : M.2.1 = l) (hr : (mM M).sig.returnType = (some .int)) (hnm : (mM M).name = yX3_thingsUsedTwice.name) {Q : State → Prop} {kc ks : Nat} {s9 : ((Int32 × Int32) ⊕ (Int32))} {g1 : AH} {a0 : Nat} {a2 : Int32} {a3 : Int32} {s0 : Int32} {s1 : Int32} (hc : ∀ s1, s9 = .inl s1 → WW M G 4 Q kc ks g1 16 [(0, .ref a0), (1, .int s1.1), (2, .int a2), (3, .int s1.2)] []) (hx : ∀ t, s9 = .inr t → WW M G 4 Q kc ks g1 114 [(0, .ref a0), (1, .int t), (2, .int a2)] []) {g : AH} (E : x3_thingsUsedTwice_j106_16 a0 a2 a3 s0 s1 g = some (s9, g1)) : WW M G 4 Q kc ks g 106 [(0, .ref a0), (2, .int a2), (3, .int a3)] [.int s0, .int s1] := by
  unfold x3_thingsUsedTwice_j106_16 at E
  refine r_iadd X dX3_thingsUsedTwice_106 ?_
  refine r_istore_n X 1 (L1 := [(1, .int (s1 + s0)), (0, .ref a0), (2, .int a2), (3, .int a3)]) dX3_thingsUsedTwice_107 rfl (by decide) rfl ?_
  refine r_iinc X (v := (a3 + 1)) (L1 := [(3, .int (a3 + 1)), (1, .int (s1 + s0)), (0, .ref a0), (2, .int a2)]) dX3_thingsUsedTwice_108 rfl rfl (by decide) rfl ?_
  refine r_goto X 16 dX3_thingsUsedTwice_111 (by decide) ?_
  cases E
  exact r_pick (by rfl : lpick [(3, .int (a3 + 1)), (1, .int (s1 + s0)), (0, .ref a0), (2, .int a2)] [2, 1, 3, 0] = _) (hc _ rfl)
set_option maxHeartbeats 4000000 in
set_option maxRecDepth 100000 in
theorem t_x3_thingsUsedTwice_j105_16 {l : Launch} {G : GG} {M : MC} (X : CX M G cX3_thingsUsedTwice 4 RX3 ⟨1, 0, 0, 60⟩) (hl0 : M.2.1 = l) (hr : (mM M).sig.returnType = (some .int)) (hnm : (mM M).name = yX3_thingsUsedTwice.name) {Q : State → Prop} {kc ks : Nat} {s9 : ((Int32 × Int32) ⊕ (Int32))} {g1 : AH} {a0 : Nat} {a2 : Int32} {a3 : Int32} {s0 : Int32} (hc : ∀ s1, s9 = .inl s1 → WW M G 4 Q kc ks g1 16 [(0, .ref a0), (1, .int s1.1), (2, .int a2), (3, .int s1.2)] []) (hx : ∀ t, s9 = .inr t → WW M G 4 Q kc ks g1 114 [(0, .ref a0), (1, .int t), (2, .int a2)] []) {g : AH} (E : x3_thingsUsedTwice_j105_16 a0 a2 a3 s0 g = some (s9, g1)) : WW M G 4 Q kc ks g 105 [(0, .ref a0), (2, .int a2), (3, .int a3)] [.int s0] := by
  unfold x3_thingsUsedTwice_j105_16 at E
  refine r_iconst X (v := 0) dX3_thingsUsedTwice_105 (by decide) ?_
  exact r_pick (by rfl : lpick [(0, .ref a0), (2, .int a2), (3, .int a3)] [0, 1, 2] = _) (t_x3_thingsUsedTwice_j106_16 X hl0 hr hnm hc hx E)
set_option maxHeartbeats 4000000 in
set_option maxRecDepth 100000 in
theorem t_x3_thingsUsedTwice_j64_16 {l : Launch} {G : GG} {M : MC} (X : CX M G cX3_thingsUsedTwice 4 RX3 ⟨1, 0, 0, 60⟩) (hl0 : M.2.1 = l) (hr : (mM M).sig.returnType = (some .int)) (hnm : (mM M).name = yX3_thingsUsedTwice.name) {Q : State → Prop} {kc ks : Nat} {s9 : ((Int32 × Int32) ⊕ (Int32))} {g1 : AH} {a0 : Nat} {a2 : Int32} {a3 : Int32} {s0 : Int32} {s1 : Int32} (hc : ∀ s1, s9 = .inl s1 → WW M G 4 Q kc ks g1 16 [(0, .ref a0), (1, .int s1.1), (2, .int a2), (3, .int s1.2)] []) (hx : ∀ t, s9 = .inr t → WW M G 4 Q kc ks g1 114 [(0, .ref a0), (1, .int t), (2, .int a2)] []) {g : AH} (E : x3_thingsUsedTwice_j64_16 a0 a2 a3 s0 s1 g = some (s9, g1)) : WW M G 4 Q kc ks g 64 [(0, .ref a0), (2, .int a2), (3, .int a3)] [.int s0, .int s1] := by
  unfold x3_thingsUsedTwice_j64_16 at E
  refine r_iadd X dX3_thingsUsedTwice_64 ?_
  refine r_istore_n X 1 (L1 := [(1, .int (s1 + s0)), (0, .ref a0), (2, .int a2), (3, .int a3)]) dX3_thingsUsedTwice_65 rfl (by decide) rfl ?_
  refine r_iload_n X 1 dX3_thingsUsedTwice_66 rfl rfl ?_
  refine r_aload_n X 0 dX3_thingsUsedTwice_67 rfl rfl ?_
  obtain ⟨x1, e2, E⟩ := gb_some E
  refine r_getR X dX3_thingsUsedTwice_68 f_X3_29 e2 ?_
  refine r_iload_n X 2 dX3_thingsUsedTwice_71 rfl rfl ?_
  obtain ⟨x3, e4, E⟩ := gb_some E
  refine r_aald X 4 (by decide) rfl dX3_thingsUsedTwice_72 e4 ?_
  obtain ⟨x5, e6, E⟩ := gb_some E
  refine r_getI X dX3_thingsUsedTwice_73 f_X3_94 e6 ?_
  refine r_iconst X (v := (-1)) dX3_thingsUsedTwice_76 (by decide) ?_
  refine r_icmp_eq X 105 dX3_thingsUsedTwice_77 (by decide) (fun c7 => ?_) (fun c7 => ?_)
  · rw [if_pos c7] at E
    exact r_pick (by rfl : lpick [(1, .int (s1 + s0)), (0, .ref a0), (2, .int a2), (3, .int a3)] [1, 2, 3] = _) (t_x3_thingsUsedTwice_j105_16 X hl0 hr hnm hc hx E)
  · rw [if_neg c7] at E
    refine r_aload_n X 0 dX3_thingsUsedTwice_80 rfl rfl ?_
    obtain ⟨x8, e9, E⟩ := gb_some E
    refine r_getR X dX3_thingsUsedTwice_81 f_X3_29 e9 ?_
    refine r_iload_n X 2 dX3_thingsUsedTwice_84 rfl rfl ?_
    obtain ⟨x10, e11, E⟩ := gb_some E
    refine r_aald X 4 (by decide) rfl dX3_thingsUsedTwice_85 e11 ?_
    obtain ⟨x12, e13, E⟩ := gb_some E
    refine r_getI X dX3_thingsUsedTwice_86 f_X3_94 e13 ?_
    refine r_aload_n X 0 dX3_thingsUsedTwice_89 rfl rfl ?_
    obtain ⟨x14, e15, E⟩ := gb_some E
    refine r_getR X dX3_thingsUsedTwice_90 f_X3_29 e15 ?_
    refine r_iload_n X 3 dX3_thingsUsedTwice_93 rfl rfl ?_
    obtain ⟨x16, e17, E⟩ := gb_some E
    refine r_aald X 4 (by decide) rfl dX3_thingsUsedTwice_94 e17 ?_
    obtain ⟨x18, e19, E⟩ := gb_some E
    refine r_getI X dX3_thingsUsedTwice_95 f_X3_94 e19 ?_
    refine r_icmp_ne X 105 dX3_thingsUsedTwice_98 (by decide) (fun c20 => ?_) (fun c20 => ?_)
    · rw [if_neg c20] at E
      exact r_pick (by rfl : lpick [(1, .int (s1 + s0)), (0, .ref a0), (2, .int a2), (3, .int a3)] [1, 2, 3] = _) (t_x3_thingsUsedTwice_j105_16 X hl0 hr hnm hc hx E)
    · rw [if_pos c20] at E
      refine r_iconst X (v := 1) dX3_thingsUsedTwice_101 (by decide) ?_
      refine r_goto X 106 dX3_thingsUsedTwice_102 (by decide) ?_
      exact r_pick (by rfl : lpick [(1, .int (s1 + s0)), (0, .ref a0), (2, .int a2), (3, .int a3)] [1, 2, 3] = _) (t_x3_thingsUsedTwice_j106_16 X hl0 hr hnm hc hx E)
set_option maxHeartbeats 4000000 in
set_option maxRecDepth 100000 in
theorem t_x3_thingsUsedTwice_j63_16 {l : Launch} {G : GG} {M : MC} (X : CX M G cX3_thingsUsedTwice 4 RX3 ⟨1, 0, 0, 60⟩) (hl0 : M.2.1 = l) (hr : (mM M).sig.returnType = (some .int)) (hnm : (mM M).name = yX3_thingsUsedTwice.name) {Q : State → Prop} {kc ks : Nat} {s9 : ((Int32 × Int32) ⊕ (Int32))} {g1 : AH} {a0 : Nat} {a2 : Int32} {a3 : Int32} {s0 : Int32} (hc : ∀ s1, s9 = .inl s1 → WW M G 4 Q kc ks g1 16 [(0, .ref a0), (1, .int s1.1), (2, .int a2), (3, .int s1.2)] []) (hx : ∀ t, s9 = .inr t → WW M G 4 Q kc ks g1 114 [(0, .ref a0), (1, .int t), (2, .int a2)] []) {g : AH} (E : x3_thingsUsedTwice_j63_16 a0 a2 a3 s0 g = some (s9, g1)) : WW M G 4 Q kc ks g 63 [(0, .ref a0), (2, .int a2), (3, .int a3)] [.int s0] := by
  unfold x3_thingsUsedTwice_j63_16 at E
  refine r_iconst X (v := 0) dX3_thingsUsedTwice_63 (by decide) ?_
  exact r_pick (by rfl : lpick [(0, .ref a0), (2, .int a2), (3, .int a3)] [0, 1, 2] = _) (t_x3_thingsUsedTwice_j64_16 X hl0 hr hnm hc hx E)
set_option maxHeartbeats 4000000 in
set_option maxRecDepth 100000 in
theorem t_x3_thingsUsedTwice_l16 {l : Launch} {G : GG} {M : MC} (X : CX M G cX3_thingsUsedTwice 4 RX3 ⟨1, 0, 0, 60⟩) (hl0 : M.2.1 = l) (hr : (mM M).sig.returnType = (some .int)) (hnm : (mM M).name = yX3_thingsUsedTwice.name) {Q : State → Prop} {kc ks : Nat} {s9 : ((Int32 × Int32) ⊕ (Int32))} {g1 : AH} {a0 : Nat} {a2 : Int32} {s0 : Int32 × Int32} (hc : ∀ s1, s9 = .inl s1 → WW M G 4 Q kc ks g1 16 [(0, .ref a0), (1, .int s1.1), (2, .int a2), (3, .int s1.2)] []) (hx : ∀ t, s9 = .inr t → WW M G 4 Q kc ks g1 114 [(0, .ref a0), (1, .int t), (2, .int a2)] []) {g : AH} (E : x3_thingsUsedTwice_l16 a0 a2 s0 g = some (s9, g1)) : WW M G 4 Q kc ks g 16 [(0, .ref a0), (1, .int s0.1), (2, .int a2), (3, .int s0.2)] [] := by
  unfold x3_thingsUsedTwice_l16 at E
  refine r_iload_n X 3 dX3_thingsUsedTwice_16 rfl rfl ?_
  refine r_aload_n X 0 dX3_thingsUsedTwice_17 rfl rfl ?_
  obtain ⟨x1, e2, E⟩ := gb_some E
  refine r_getI X dX3_thingsUsedTwice_18 f_X3_78 e2 ?_
  refine r_icmp_ge X 114 dX3_thingsUsedTwice_21 (by decide) (fun c3 => ?_) (fun c3 => ?_)
  · rw [if_pos c3] at E
    cases E
    exact r_pick (by rfl : lpick [(0, .ref a0), (1, .int s0.1), (2, .int a2), (3, .int s0.2)] [0, 1, 2] = _) (hx _ rfl)
  · rw [if_neg c3] at E
    refine r_iload_n X 1 dX3_thingsUsedTwice_24 rfl rfl ?_
    refine r_aload_n X 0 dX3_thingsUsedTwice_25 rfl rfl ?_
    obtain ⟨x4, e5, E⟩ := gb_some E
    refine r_getR X dX3_thingsUsedTwice_26 f_X3_29 e5 ?_
    refine r_iload_n X 2 dX3_thingsUsedTwice_29 rfl rfl ?_
    obtain ⟨x6, e7, E⟩ := gb_some E
    refine r_aald X 4 (by decide) rfl dX3_thingsUsedTwice_30 e7 ?_
    obtain ⟨x8, e9, E⟩ := gb_some E
    refine r_getI X dX3_thingsUsedTwice_31 f_X3_104 e9 ?_
    refine r_iconst X (v := (-1)) dX3_thingsUsedTwice_34 (by decide) ?_
    refine r_icmp_eq X 63 dX3_thingsUsedTwice_35 (by decide) (fun c10 => ?_) (fun c10 => ?_)
    · rw [if_pos c10] at E
      exact r_pick (by rfl : lpick [(0, .ref a0), (1, .int s0.1), (2, .int a2), (3, .int s0.2)] [0, 2, 3] = _) (t_x3_thingsUsedTwice_j63_16 X hl0 hr hnm hc hx E)
    · rw [if_neg c10] at E
      refine r_aload_n X 0 dX3_thingsUsedTwice_38 rfl rfl ?_
      obtain ⟨x11, e12, E⟩ := gb_some E
      refine r_getR X dX3_thingsUsedTwice_39 f_X3_29 e12 ?_
      refine r_iload_n X 2 dX3_thingsUsedTwice_42 rfl rfl ?_
      obtain ⟨x13, e14, E⟩ := gb_some E
      refine r_aald X 4 (by decide) rfl dX3_thingsUsedTwice_43 e14 ?_
      obtain ⟨x15, e16, E⟩ := gb_some E
      refine r_getI X dX3_thingsUsedTwice_44 f_X3_104 e16 ?_
      refine r_aload_n X 0 dX3_thingsUsedTwice_47 rfl rfl ?_
      obtain ⟨x17, e18, E⟩ := gb_some E
      refine r_getR X dX3_thingsUsedTwice_48 f_X3_29 e18 ?_
      refine r_iload_n X 3 dX3_thingsUsedTwice_51 rfl rfl ?_
      obtain ⟨x19, e20, E⟩ := gb_some E
      refine r_aald X 4 (by decide) rfl dX3_thingsUsedTwice_52 e20 ?_
      obtain ⟨x21, e22, E⟩ := gb_some E
      refine r_getI X dX3_thingsUsedTwice_53 f_X3_104 e22 ?_
      refine r_icmp_ne X 63 dX3_thingsUsedTwice_56 (by decide) (fun c23 => ?_) (fun c23 => ?_)
      · rw [if_neg c23] at E
        exact r_pick (by rfl : lpick [(0, .ref a0), (1, .int s0.1), (2, .int a2), (3, .int s0.2)] [0, 2, 3] = _) (t_x3_thingsUsedTwice_j63_16 X hl0 hr hnm hc hx E)
      · rw [if_pos c23] at E
        refine r_iconst X (v := 1) dX3_thingsUsedTwice_59 (by decide) ?_
        refine r_goto X 64 dX3_thingsUsedTwice_60 (by decide) ?_
        exact r_pick (by rfl : lpick [(0, .ref a0), (1, .int s0.1), (2, .int a2), (3, .int s0.2)] [0, 2, 3] = _) (t_x3_thingsUsedTwice_j64_16 X hl0 hr hnm hc hx E)
set_option maxHeartbeats 4000000 in
theorem t_x3_thingsUsedTwice_l16_r {l : Launch} {G : GG} {M : MC} (X : CX M G cX3_thingsUsedTwice 4 RX3 ⟨1, 0, 0, 60⟩) (hl0 : M.2.1 = l) (hr : (mM M).sig.returnType = (some .int)) (hnm : (mM M).name = yX3_thingsUsedTwice.name) {Q : State → Prop} {kc ks : Nat} {a0 : Nat} {a2 : Int32} : ∀ (n : Nat) (s0 : Int32 × Int32) (g : AH) (t : (Int32)) (g1 : AH), loopX (x3_thingsUsedTwice_l16 a0 a2) n s0 g = some (t, g1) → WW M G 4 Q kc ks g1 114 [(0, .ref a0), (1, .int t), (2, .int a2)] [] → WW M G 4 Q kc ks g 16 [(0, .ref a0), (1, .int s0.1), (2, .int a2), (3, .int s0.2)] [] :=
  loop_cps (K := fun t g1 => WW M G 4 Q kc ks g1 114 [(0, .ref a0), (1, .int t), (2, .int a2)] []) (fun _ s0 g => WW M G 4 Q kc ks g 16 [(0, .ref a0), (1, .int s0.1), (2, .int a2), (3, .int s0.2)] []) (fun n s0 g st g1 E hc hx => t_x3_thingsUsedTwice_l16 X hl0 hr hnm hc hx E)
set_option maxHeartbeats 4000000 in
set_option maxRecDepth 100000 in
theorem t_x3_thingsUsedTwice_l4 {l : Launch} {G : GG} {M : MC} (X : CX M G cX3_thingsUsedTwice 4 RX3 ⟨1, 0, 0, 60⟩) (hl0 : M.2.1 = l) (hr : (mM M).sig.returnType = (some .int)) (hnm : (mM M).name = yX3_thingsUsedTwice.name) {Q : State → Prop} {kc ks : Nat} {s9 : ((Int32 × Int32) ⊕ (Int32))} {g1 : AH} {a0 : Nat} {s0 : Int32 × Int32} (hc : ∀ s1, s9 = .inl s1 → WW M G 4 Q kc ks g1 4 [(0, .ref a0), (1, .int s1.1), (2, .int s1.2)] []) (hx : ∀ t, s9 = .inr t → WW M G 4 Q kc ks g1 120 [(1, .int t)] []) {g : AH} (E : x3_thingsUsedTwice_l4 a0 s0 g = some (s9, g1)) : WW M G 4 Q kc ks g 4 [(0, .ref a0), (1, .int s0.1), (2, .int s0.2)] [] := by
  unfold x3_thingsUsedTwice_l4 at E
  refine r_iload_n X 2 dX3_thingsUsedTwice_4 rfl rfl ?_
  refine r_aload_n X 0 dX3_thingsUsedTwice_5 rfl rfl ?_
  obtain ⟨x1, e2, E⟩ := gb_some E
  refine r_getI X dX3_thingsUsedTwice_6 f_X3_78 e2 ?_
  refine r_icmp_ge X 120 dX3_thingsUsedTwice_9 (by decide) (fun c3 => ?_) (fun c3 => ?_)
  · rw [if_pos c3] at E
    cases E
    exact r_pick (by rfl : lpick [(0, .ref a0), (1, .int s0.1), (2, .int s0.2)] [1] = _) (hx _ rfl)
  · rw [if_neg c3] at E
    refine r_iload_n X 2 dX3_thingsUsedTwice_12 rfl rfl ?_
    refine r_iconst X (v := 1) dX3_thingsUsedTwice_13 (by decide) ?_
    refine r_iadd X dX3_thingsUsedTwice_14 ?_
    refine r_istore_n X 3 (L1 := [(3, .int (s0.2 + 1)), (0, .ref a0), (1, .int s0.1), (2, .int s0.2)]) dX3_thingsUsedTwice_15 rfl (by decide) rfl ?_
    obtain ⟨t4, g5, e6, E⟩ := cb_some E
    refine r_pick (by rfl : lpick [(3, .int (s0.2 + 1)), (0, .ref a0), (1, .int s0.1), (2, .int s0.2)] [1, 2, 3, 0] = _) (t_x3_thingsUsedTwice_l16_r X hl0 hr hnm _ _ _ _ _ e6 ?_)
    refine r_iinc X (v := (s0.2 + 1)) (L1 := [(2, .int (s0.2 + 1)), (0, .ref a0), (1, .int t4)]) dX3_thingsUsedTwice_114 rfl rfl (by decide) rfl ?_
    refine r_goto X 4 dX3_thingsUsedTwice_117 (by decide) ?_
    cases E
    exact r_pick (by rfl : lpick [(2, .int (s0.2 + 1)), (0, .ref a0), (1, .int t4)] [1, 2, 0] = _) (hc _ rfl)
set_option maxHeartbeats 4000000 in
theorem t_x3_thingsUsedTwice_l4_r {l : Launch} {G : GG} {M : MC} (X : CX M G cX3_thingsUsedTwice 4 RX3 ⟨1, 0, 0, 60⟩) (hl0 : M.2.1 = l) (hr : (mM M).sig.returnType = (some .int)) (hnm : (mM M).name = yX3_thingsUsedTwice.name) {Q : State → Prop} {kc ks : Nat} {a0 : Nat} : ∀ (n : Nat) (s0 : Int32 × Int32) (g : AH) (t : (Int32)) (g1 : AH), loopX (x3_thingsUsedTwice_l4 a0) n s0 g = some (t, g1) → WW M G 4 Q kc ks g1 120 [(1, .int t)] [] → WW M G 4 Q kc ks g 4 [(0, .ref a0), (1, .int s0.1), (2, .int s0.2)] [] :=
  loop_cps (K := fun t g1 => WW M G 4 Q kc ks g1 120 [(1, .int t)] []) (fun _ s0 g => WW M G 4 Q kc ks g 4 [(0, .ref a0), (1, .int s0.1), (2, .int s0.2)] []) (fun n s0 g st g1 E hc hx => t_x3_thingsUsedTwice_l4 X hl0 hr hnm hc hx E)
set_option maxHeartbeats 4000000 in
set_option maxRecDepth 100000 in
theorem t_x3_thingsUsedTwice_b {l : Launch} {G : GG} {M : MC} (X : CX M G cX3_thingsUsedTwice 4 RX3 ⟨1, 0, 0, 60⟩) (hl0 : M.2.1 = l) (hr : (mM M).sig.returnType = (some .int)) (hnm : (mM M).name = yX3_thingsUsedTwice.name) {p : Nat} {g : AH} {r : Int32} {g1 : AH} (E : x3_thingsUsedTwice p g = some (r, g1)) : WW M G 4 (RQ M G (some (.int r)) g1 0 0) 0 0 g 0 [(0, .ref p)] [] := by
  unfold x3_thingsUsedTwice at E
  refine r_iconst X (v := 0) dX3_thingsUsedTwice_0 (by decide) ?_
  refine r_istore_n X 1 (L1 := [(1, .int 0), (0, .ref p)]) dX3_thingsUsedTwice_1 rfl (by decide) rfl ?_
  refine r_iconst X (v := 0) dX3_thingsUsedTwice_2 (by decide) ?_
  refine r_istore_n X 2 (L1 := [(2, .int 0), (1, .int 0), (0, .ref p)]) dX3_thingsUsedTwice_3 rfl (by decide) rfl ?_
  obtain ⟨t1, g2, e3, E⟩ := cb_some E
  refine r_pick (by rfl : lpick [(2, .int 0), (1, .int 0), (0, .ref p)] [2, 1, 0] = _) (t_x3_thingsUsedTwice_l4_r X hl0 hr hnm _ _ _ _ _ e3 ?_)
  refine r_iload_n X 1 dX3_thingsUsedTwice_120 rfl rfl ?_
  cases E
  exact r_iret X hr dX3_thingsUsedTwice_121 (by decide) (by decide)
theorem t_x3_thingsUsedTwice {l : Launch} {G : GG} {p : Nat} {g : AH} {r : Int32} {g1 : AH} (E : x3_thingsUsedTwice p g = some (r, g1)) : Ct l G yX3_thingsUsedTwice cX3_thingsUsedTwice 4 (some .int) ⟨1, 0, 0, 60⟩ [.ref p] g (some (.int r)) g1 :=
  ct_of (L0 := [(0, .ref p)]) y_X3_thingsUsedTwice rfl (Nat.le_of_ble_eq_true rfl) fun M hl0 X hr hnm => t_x3_thingsUsedTwice_b X hl0 hr hnm E
set_option maxHeartbeats 4000000 in
set_option maxRecDepth 100000 in
theorem t_x8_auditDifference_b {l : Launch} {G : GG} {M : MC} (X : CX M G cX8_auditDifference 1 RX8 ⟨2, 0, 0, 150⟩) (hl0 : M.2.1 = l) (hr : (mM M).sig.returnType = (some .int)) (hnm : (mM M).name = yX8_auditDifference.name) {p : Nat} {g : AH} {r : Int32} {g1 : AH} (E : x8_auditDifference p g = some (r, g1)) : WW M G 1 (RQ M G (some (.int r)) g1 0 0) 0 0 g 0 [(0, .ref p)] [] := by
  unfold x8_auditDifference at E
  refine r_aload_n X 0 dX8_auditDifference_0 rfl rfl ?_
  obtain ⟨x1, e2, E⟩ := gb_some E
  refine r_getR X dX8_auditDifference_1 f_X8_10 e2 ?_
  obtain ⟨x3, e4, E⟩ := gb_some E
  refine r_getI X dX8_auditDifference_4 f_X8_286 e4 ?_
  refine r_aload_n X 0 dX8_auditDifference_7 rfl rfl ?_
  obtain ⟨x5, e6, E⟩ := gb_some E
  refine r_getR X dX8_auditDifference_8 f_X8_10 e6 ?_
  obtain ⟨x7, e8, E⟩ := gb_some E
  refine r_getI X dX8_auditDifference_11 f_X8_277 e8 ?_
  refine r_isub X dX8_auditDifference_14 ?_
  refine r_aload_n X 0 dX8_auditDifference_15 rfl rfl ?_
  obtain ⟨x9, e10, E⟩ := gb_some E
  refine r_getR X dX8_auditDifference_16 f_X8_10 e10 ?_
  obtain ⟨u14, e15, E⟩ := gb_some E
  obtain ⟨r11, g12, e13, E⟩ := cb_some E
  refine r_callV0 X hl0 (ci := 3) dX8_auditDifference_19 y_X3_sumOfCoins m_X8_289 rfl rfl e15 (t_x3_sumOfCoins (l := l) (G := G) e13) rfl rfl (Nat.le_of_ble_eq_true rfl) (by decide) ?_
  refine r_isub X dX8_auditDifference_22 ?_
  refine r_abs X dX8_auditDifference_23 m_X8_292m (by decide) (Nat.le_of_ble_eq_true rfl) ?_
  refine r_aload_n X 0 dX8_auditDifference_26 rfl rfl ?_
  obtain ⟨x16, e17, E⟩ := gb_some E
  refine r_getR X dX8_auditDifference_27 f_X8_10 e17 ?_
  obtain ⟨x18, e19, E⟩ := gb_some E
  refine r_getI X dX8_auditDifference_30 f_X8_297 e19 ?_
  refine r_aload_n X 0 dX8_auditDifference_33 rfl rfl ?_
  obtain ⟨x20, e21, E⟩ := gb_some E
  refine r_getR X dX8_auditDifference_34 f_X8_10 e21 ?_
  obtain ⟨x22, e23, E⟩ := gb_some E
  refine r_getI X dX8_auditDifference_37 f_X8_159 e23 ?_
  refine r_isub X dX8_auditDifference_40 ?_
  refine r_aload_n X 0 dX8_auditDifference_41 rfl rfl ?_
  obtain ⟨x24, e25, E⟩ := gb_some E
  refine r_getR X dX8_auditDifference_42 f_X8_10 e25 ?_
  obtain ⟨x26, e27, E⟩ := gb_some E
  refine r_getI X dX8_auditDifference_45 f_X8_280 e27 ?_
  refine r_isub X dX8_auditDifference_48 ?_
  refine r_abs X dX8_auditDifference_49 m_X8_292m (by decide) (Nat.le_of_ble_eq_true rfl) ?_
  refine r_iadd X dX8_auditDifference_52 ?_
  refine r_aload_n X 0 dX8_auditDifference_53 rfl rfl ?_
  obtain ⟨x28, e29, E⟩ := gb_some E
  refine r_getR X dX8_auditDifference_54 f_X8_10 e29 ?_
  obtain ⟨u33, e34, E⟩ := gb_some E
  obtain ⟨r30, g31, e32, E⟩ := cb_some E
  refine r_callV0 X hl0 (ci := 3) dX8_auditDifference_57 y_X3_thingsUsedTwice m_X8_300 rfl rfl e34 (t_x3_thingsUsedTwice (l := l) (G := G) e32) rfl rfl (Nat.le_of_ble_eq_true rfl) (by decide) ?_
  refine r_iadd X dX8_auditDifference_60 ?_
  cases E
  exact r_iret X hr dX8_auditDifference_61 (by decide) (by decide)
theorem t_x8_auditDifference {l : Launch} {G : GG} {p : Nat} {g : AH} {r : Int32} {g1 : AH} (E : x8_auditDifference p g = some (r, g1)) : Ct l G yX8_auditDifference cX8_auditDifference 1 (some .int) ⟨2, 0, 0, 150⟩ [.ref p] g (some (.int r)) g1 :=
  ct_of (L0 := [(0, .ref p)]) y_X8_auditDifference rfl (Nat.le_of_ble_eq_true rfl) fun M hl0 X hr hnm => t_x8_auditDifference_b X hl0 hr hnm E
set_option maxHeartbeats 4000000 in
set_option maxRecDepth 100000 in
theorem t_x3_sumOfWarmths_l4 {l : Launch} {G : GG} {M : MC} (X : CX M G cX3_sumOfWarmths 3 RX3 ⟨1, 0, 0, 60⟩) (hl0 : M.2.1 = l) (hr : (mM M).sig.returnType = (some .int)) (hnm : (mM M).name = yX3_sumOfWarmths.name) {Q : State → Prop} {kc ks : Nat} {s9 : ((Int32 × Int32) ⊕ (Int32))} {g1 : AH} {a0 : Nat} {s0 : Int32 × Int32} (hc : ∀ s1, s9 = .inl s1 → WW M G 3 Q kc ks g1 4 [(0, .ref a0), (1, .int s1.1), (2, .int s1.2)] []) (hx : ∀ t, s9 = .inr t → WW M G 3 Q kc ks g1 30 [(1, .int t)] []) {g : AH} (E : x3_sumOfWarmths_l4 a0 s0 g = some (s9, g1)) : WW M G 3 Q kc ks g 4 [(0, .ref a0), (1, .int s0.1), (2, .int s0.2)] [] := by
  unfold x3_sumOfWarmths_l4 at E
  refine r_iload_n X 2 dX3_sumOfWarmths_4 rfl rfl ?_
  refine r_aload_n X 0 dX3_sumOfWarmths_5 rfl rfl ?_
  obtain ⟨x1, e2, E⟩ := gb_some E
  refine r_getI X dX3_sumOfWarmths_6 f_X3_78 e2 ?_
  refine r_icmp_ge X 30 dX3_sumOfWarmths_9 (by decide) (fun c3 => ?_) (fun c3 => ?_)
  · rw [if_pos c3] at E
    cases E
    exact r_pick (by rfl : lpick [(0, .ref a0), (1, .int s0.1), (2, .int s0.2)] [1] = _) (hx _ rfl)
  · rw [if_neg c3] at E
    refine r_iload_n X 1 dX3_sumOfWarmths_12 rfl rfl ?_
    refine r_aload_n X 0 dX3_sumOfWarmths_13 rfl rfl ?_
    obtain ⟨x4, e5, E⟩ := gb_some E
    refine r_getR X dX3_sumOfWarmths_14 f_X3_29 e5 ?_
    refine r_iload_n X 2 dX3_sumOfWarmths_17 rfl rfl ?_
    obtain ⟨x6, e7, E⟩ := gb_some E
    refine r_aald X 4 (by decide) rfl dX3_sumOfWarmths_18 e7 ?_
    obtain ⟨x8, e9, E⟩ := gb_some E
    refine r_getI X dX3_sumOfWarmths_19 f_X3_111 e9 ?_
    refine r_iadd X dX3_sumOfWarmths_22 ?_
    refine r_istore_n X 1 (L1 := [(1, .int (s0.1 + x8)), (0, .ref a0), (2, .int s0.2)]) dX3_sumOfWarmths_23 rfl (by decide) rfl ?_
    refine r_iinc X (v := (s0.2 + 1)) (L1 := [(2, .int (s0.2 + 1)), (1, .int (s0.1 + x8)), (0, .ref a0)]) dX3_sumOfWarmths_24 rfl rfl (by decide) rfl ?_
    refine r_goto X 4 dX3_sumOfWarmths_27 (by decide) ?_
    cases E
    exact r_pick (by rfl : lpick [(2, .int (s0.2 + 1)), (1, .int (s0.1 + x8)), (0, .ref a0)] [2, 1, 0] = _) (hc _ rfl)
set_option maxHeartbeats 4000000 in
theorem t_x3_sumOfWarmths_l4_r {l : Launch} {G : GG} {M : MC} (X : CX M G cX3_sumOfWarmths 3 RX3 ⟨1, 0, 0, 60⟩) (hl0 : M.2.1 = l) (hr : (mM M).sig.returnType = (some .int)) (hnm : (mM M).name = yX3_sumOfWarmths.name) {Q : State → Prop} {kc ks : Nat} {a0 : Nat} : ∀ (n : Nat) (s0 : Int32 × Int32) (g : AH) (t : (Int32)) (g1 : AH), loopX (x3_sumOfWarmths_l4 a0) n s0 g = some (t, g1) → WW M G 3 Q kc ks g1 30 [(1, .int t)] [] → WW M G 3 Q kc ks g 4 [(0, .ref a0), (1, .int s0.1), (2, .int s0.2)] [] :=
  loop_cps (K := fun t g1 => WW M G 3 Q kc ks g1 30 [(1, .int t)] []) (fun _ s0 g => WW M G 3 Q kc ks g 4 [(0, .ref a0), (1, .int s0.1), (2, .int s0.2)] []) (fun n s0 g st g1 E hc hx => t_x3_sumOfWarmths_l4 X hl0 hr hnm hc hx E)
set_option maxHeartbeats 4000000 in
set_option maxRecDepth 100000 in
theorem t_x3_sumOfWarmths_b {l : Launch} {G : GG} {M : MC} (X : CX M G cX3_sumOfWarmths 3 RX3 ⟨1, 0, 0, 60⟩) (hl0 : M.2.1 = l) (hr : (mM M).sig.returnType = (some .int)) (hnm : (mM M).name = yX3_sumOfWarmths.name) {p : Nat} {g : AH} {r : Int32} {g1 : AH} (E : x3_sumOfWarmths p g = some (r, g1)) : WW M G 3 (RQ M G (some (.int r)) g1 0 0) 0 0 g 0 [(0, .ref p)] [] := by
  unfold x3_sumOfWarmths at E
  refine r_iconst X (v := 0) dX3_sumOfWarmths_0 (by decide) ?_
  refine r_istore_n X 1 (L1 := [(1, .int 0), (0, .ref p)]) dX3_sumOfWarmths_1 rfl (by decide) rfl ?_
  refine r_iconst X (v := 0) dX3_sumOfWarmths_2 (by decide) ?_
  refine r_istore_n X 2 (L1 := [(2, .int 0), (1, .int 0), (0, .ref p)]) dX3_sumOfWarmths_3 rfl (by decide) rfl ?_
  obtain ⟨t1, g2, e3, E⟩ := cb_some E
  refine r_pick (by rfl : lpick [(2, .int 0), (1, .int 0), (0, .ref p)] [2, 1, 0] = _) (t_x3_sumOfWarmths_l4_r X hl0 hr hnm _ _ _ _ _ e3 ?_)
  refine r_iload_n X 1 dX3_sumOfWarmths_30 rfl rfl ?_
  cases E
  exact r_iret X hr dX3_sumOfWarmths_31 (by decide) (by decide)
theorem t_x3_sumOfWarmths {l : Launch} {G : GG} {p : Nat} {g : AH} {r : Int32} {g1 : AH} (E : x3_sumOfWarmths p g = some (r, g1)) : Ct l G yX3_sumOfWarmths cX3_sumOfWarmths 3 (some .int) ⟨1, 0, 0, 60⟩ [.ref p] g (some (.int r)) g1 :=
  ct_of (L0 := [(0, .ref p)]) y_X3_sumOfWarmths rfl (Nat.le_of_ble_eq_true rfl) fun M hl0 X hr hnm => t_x3_sumOfWarmths_b X hl0 hr hnm E
set_option maxHeartbeats 4000000 in
set_option maxRecDepth 100000 in
theorem t_x8_meanWarmth_b {l : Launch} {G : GG} {M : MC} (X : CX M G cX8_meanWarmth 2 RX8 ⟨2, 0, 0, 82⟩) (hl0 : M.2.1 = l) (hr : (mM M).sig.returnType = (some .double)) (hnm : (mM M).name = yX8_meanWarmth.name) {p : Nat} {g : AH} {r : UInt64} {g1 : AH} (E : x8_meanWarmth p g = some (r, g1)) : WW M G 2 (RQ M G (some (.double r)) g1 0 0) 0 0 g 0 [(0, .ref p)] [] := by
  unfold x8_meanWarmth at E
  refine r_aload_n X 0 dX8_meanWarmth_0 rfl rfl ?_
  obtain ⟨x1, e2, E⟩ := gb_some E
  refine r_getR X dX8_meanWarmth_1 f_X8_10 e2 ?_
  obtain ⟨x3, e4, E⟩ := gb_some E
  refine r_getI X dX8_meanWarmth_4 f_X8_116 e4 ?_
  refine r_istore_n X 1 (L1 := [(1, .int x3), (0, .ref p)]) dX8_meanWarmth_7 rfl (by decide) rfl ?_
  refine r_iload_n X 1 dX8_meanWarmth_8 rfl rfl ?_
  refine r_iconst X (v := 1) dX8_meanWarmth_9 (by decide) ?_
  refine r_icmp_ge X 17 dX8_meanWarmth_10 (by decide) (fun c5 => ?_) (fun c5 => ?_)
  · rw [if_pos c5] at E
    refine r_aload_n X 0 dX8_meanWarmth_17 rfl rfl ?_
    obtain ⟨x6, e7, E⟩ := gb_some E
    refine r_getR X dX8_meanWarmth_18 f_X8_10 e7 ?_
    obtain ⟨u11, e12, E⟩ := gb_some E
    obtain ⟨r8, g9, e10, E⟩ := cb_some E
    refine r_callV0 X hl0 (ci := 3) dX8_meanWarmth_21 y_X3_sumOfWarmths m_X8_303 rfl rfl e12 (t_x3_sumOfWarmths (l := l) (G := G) e10) rfl rfl (Nat.le_of_ble_eq_true rfl) (by decide) ?_
    refine r_i2d X dX8_meanWarmth_24 ?_
    refine r_iload_n X 1 dX8_meanWarmth_25 rfl rfl ?_
    refine r_i2d X dX8_meanWarmth_26 ?_
    by_cases c13 : n64 (FP.ddiv (FP.i2d r8) (FP.i2d x3))
    rotate_left
    · rw [if_neg c13] at E; cases E
    rw [if_pos c13] at E
    refine r_ddiv X dX8_meanWarmth_27 c13 ?_
    cases E
    exact r_dret X hr dX8_meanWarmth_28 (by decide) (by decide)
  · rw [if_neg c5] at E
    refine r_dconst0 X dX8_meanWarmth_13 ?_
    refine r_goto X 28 dX8_meanWarmth_14 (by decide) ?_
    cases E
    exact r_dret X hr dX8_meanWarmth_28 (by decide) (by decide)
theorem t_x8_meanWarmth {l : Launch} {G : GG} {p : Nat} {g : AH} {r : UInt64} {g1 : AH} (E : x8_meanWarmth p g = some (r, g1)) : Ct l G yX8_meanWarmth cX8_meanWarmth 2 (some .double) ⟨2, 0, 0, 82⟩ [.ref p] g (some (.double r)) g1 :=
  ct_of (L0 := [(0, .ref p)]) y_X8_meanWarmth rfl (Nat.le_of_ble_eq_true rfl) fun M hl0 X hr hnm => t_x8_meanWarmth_b X hl0 hr hnm E
set_option maxHeartbeats 4000000 in
set_option maxRecDepth 100000 in
theorem t_x3_sumOfHours_l4 {l : Launch} {G : GG} {M : MC} (X : CX M G cX3_sumOfHours 4 RX3 ⟨1, 0, 0, 60⟩) (hl0 : M.2.1 = l) (hr : (mM M).sig.returnType = (some .int)) (hnm : (mM M).name = yX3_sumOfHours.name) {Q : State → Prop} {kc ks : Nat} {s9 : ((Int32 × Int32) ⊕ (Int32))} {g1 : AH} {a0 : Nat} {a1 : Int32} {s0 : Int32 × Int32} (hc : ∀ s1, s9 = .inl s1 → WW M G 4 Q kc ks g1 4 [(0, .ref a0), (1, .int a1), (2, .int s1.1), (3, .int s1.2)] []) (hx : ∀ t, s9 = .inr t → WW M G 4 Q kc ks g1 32 [(2, .int t)] []) {g : AH} (E : x3_sumOfHours_l4 a0 a1 s0 g = some (s9, g1)) : WW M G 4 Q kc ks g 4 [(0, .ref a0), (1, .int a1), (2, .int s0.1), (3, .int s0.2)] [] := by
  unfold x3_sumOfHours_l4 at E
  refine r_iload_n X 3 dX3_sumOfHours_4 rfl rfl ?_
  refine r_aload_n X 0 dX3_sumOfHours_5 rfl rfl ?_
  obtain ⟨x1, e2, E⟩ := gb_some E
  refine r_getI X dX3_sumOfHours_6 f_X3_78 e2 ?_
  refine r_icmp_ge X 32 dX3_sumOfHours_9 (by decide) (fun c3 => ?_) (fun c3 => ?_)
  · rw [if_pos c3] at E
    cases E
    exact r_pick (by rfl : lpick [(0, .ref a0), (1, .int a1), (2, .int s0.1), (3, .int s0.2)] [2] = _) (hx _ rfl)
  · rw [if_neg c3] at E
    refine r_iload_n X 2 dX3_sumOfHours_12 rfl rfl ?_
    refine r_aload_n X 0 dX3_sumOfHours_13 rfl rfl ?_
    obtain ⟨x4, e5, E⟩ := gb_some E
    refine r_getR X dX3_sumOfHours_14 f_X3_29 e5 ?_
    refine r_iload_n X 3 dX3_sumOfHours_17 rfl rfl ?_
    obtain ⟨x6, e7, E⟩ := gb_some E
    refine r_aald X 4 (by decide) rfl dX3_sumOfHours_18 e7 ?_
    obtain ⟨x8, e9, E⟩ := gb_some E
    refine r_getR X dX3_sumOfHours_19 f_X3_194 e9 ?_
    refine r_iload_n X 1 dX3_sumOfHours_22 rfl rfl ?_
    obtain ⟨x10, e11, E⟩ := gb_some E
    refine r_iald X dX3_sumOfHours_23 e11 ?_
    refine r_iadd X dX3_sumOfHours_24 ?_
    refine r_istore_n X 2 (L1 := [(2, .int (s0.1 + x10)), (0, .ref a0), (1, .int a1), (3, .int s0.2)]) dX3_sumOfHours_25 rfl (by decide) rfl ?_
    refine r_iinc X (v := (s0.2 + 1)) (L1 := [(3, .int (s0.2 + 1)), (2, .int (s0.1 + x10)), (0, .ref a0), (1, .int a1)]) dX3_sumOfHours_26 rfl rfl (by decide) rfl ?_
    refine r_goto X 4 dX3_sumOfHours_29 (by decide) ?_
    cases E
    exact r_pick (by rfl : lpick [(3, .int (s0.2 + 1)), (2, .int (s0.1 + x10)), (0, .ref a0), (1, .int a1)] [2, 3, 1, 0] = _) (hc _ rfl)
set_option maxHeartbeats 4000000 in
theorem t_x3_sumOfHours_l4_r {l : Launch} {G : GG} {M : MC} (X : CX M G cX3_sumOfHours 4 RX3 ⟨1, 0, 0, 60⟩) (hl0 : M.2.1 = l) (hr : (mM M).sig.returnType = (some .int)) (hnm : (mM M).name = yX3_sumOfHours.name) {Q : State → Prop} {kc ks : Nat} {a0 : Nat} {a1 : Int32} : ∀ (n : Nat) (s0 : Int32 × Int32) (g : AH) (t : (Int32)) (g1 : AH), loopX (x3_sumOfHours_l4 a0 a1) n s0 g = some (t, g1) → WW M G 4 Q kc ks g1 32 [(2, .int t)] [] → WW M G 4 Q kc ks g 4 [(0, .ref a0), (1, .int a1), (2, .int s0.1), (3, .int s0.2)] [] :=
  loop_cps (K := fun t g1 => WW M G 4 Q kc ks g1 32 [(2, .int t)] []) (fun _ s0 g => WW M G 4 Q kc ks g 4 [(0, .ref a0), (1, .int a1), (2, .int s0.1), (3, .int s0.2)] []) (fun n s0 g st g1 E hc hx => t_x3_sumOfHours_l4 X hl0 hr hnm hc hx E)
set_option maxHeartbeats 4000000 in
set_option maxRecDepth 100000 in
theorem t_x3_sumOfHours_b {l : Launch} {G : GG} {M : MC} (X : CX M G cX3_sumOfHours 4 RX3 ⟨1, 0, 0, 60⟩) (hl0 : M.2.1 = l) (hr : (mM M).sig.returnType = (some .int)) (hnm : (mM M).name = yX3_sumOfHours.name) {p : Nat} {b0 : Int32} {g : AH} {r : Int32} {g1 : AH} (E : x3_sumOfHours p b0 g = some (r, g1)) : WW M G 4 (RQ M G (some (.int r)) g1 0 0) 0 0 g 0 [(0, .ref p), (1, .int b0)] [] := by
  unfold x3_sumOfHours at E
  refine r_iconst X (v := 0) dX3_sumOfHours_0 (by decide) ?_
  refine r_istore_n X 2 (L1 := [(2, .int 0), (0, .ref p), (1, .int b0)]) dX3_sumOfHours_1 rfl (by decide) rfl ?_
  refine r_iconst X (v := 0) dX3_sumOfHours_2 (by decide) ?_
  refine r_istore_n X 3 (L1 := [(3, .int 0), (2, .int 0), (0, .ref p), (1, .int b0)]) dX3_sumOfHours_3 rfl (by decide) rfl ?_
  obtain ⟨t1, g2, e3, E⟩ := cb_some E
  refine r_pick (by rfl : lpick [(3, .int 0), (2, .int 0), (0, .ref p), (1, .int b0)] [2, 3, 1, 0] = _) (t_x3_sumOfHours_l4_r X hl0 hr hnm _ _ _ _ _ e3 ?_)
  refine r_iload_n X 2 dX3_sumOfHours_32 rfl rfl ?_
  cases E
  exact r_iret X hr dX3_sumOfHours_33 (by decide) (by decide)
theorem t_x3_sumOfHours {l : Launch} {G : GG} {p : Nat} {b0 : Int32} {g : AH} {r : Int32} {g1 : AH} (E : x3_sumOfHours p b0 g = some (r, g1)) : Ct l G yX3_sumOfHours cX3_sumOfHours 4 (some .int) ⟨1, 0, 0, 60⟩ [.ref p, .int b0] g (some (.int r)) g1 :=
  ct_of (L0 := [(0, .ref p), (1, .int b0)]) y_X3_sumOfHours rfl (Nat.le_of_ble_eq_true rfl) fun M hl0 X hr hnm => t_x3_sumOfHours_b X hl0 hr hnm E
set_option maxHeartbeats 4000000 in
set_option maxRecDepth 100000 in
theorem t_x8_sleepShare_b {l : Launch} {G : GG} {M : MC} (X : CX M G cX8_sleepShare 2 RX8 ⟨2, 0, 0, 83⟩) (hl0 : M.2.1 = l) (hr : (mM M).sig.returnType = (some .float)) (hnm : (mM M).name = yX8_sleepShare.name) {p : Nat} {g : AH} {r : UInt32} {g1 : AH} (E : x8_sleepShare p g = some (r, g1)) : WW M G 2 (RQ M G (some (.float r)) g1 0 0) 0 0 g 0 [(0, .ref p)] [] := by
  unfold x8_sleepShare at E
  refine r_aload_n X 0 dX8_sleepShare_0 rfl rfl ?_
  obtain ⟨x1, e2, E⟩ := gb_some E
  refine r_getR X dX8_sleepShare_1 f_X8_10 e2 ?_
  obtain ⟨x3, e4, E⟩ := gb_some E
  refine r_getI X dX8_sleepShare_4 f_X8_152 e4 ?_
  refine r_aload_n X 0 dX8_sleepShare_7 rfl rfl ?_
  obtain ⟨x5, e6, E⟩ := gb_some E
  refine r_getR X dX8_sleepShare_8 f_X8_10 e6 ?_
  obtain ⟨x7, e8, E⟩ := gb_some E
  refine r_getI X dX8_sleepShare_11 f_X8_116 e8 ?_
  refine r_imul X dX8_sleepShare_14 ?_
  refine r_istore_n X 1 (L1 := [(1, .int (x3 * x7)), (0, .ref p)]) dX8_sleepShare_15 rfl (by decide) rfl ?_
  refine r_iload_n X 1 dX8_sleepShare_16 rfl rfl ?_
  refine r_iconst X (v := 1) dX8_sleepShare_17 (by decide) ?_
  refine r_icmp_ge X 25 dX8_sleepShare_18 (by decide) (fun c9 => ?_) (fun c9 => ?_)
  · rw [if_pos c9] at E
    refine r_aload_n X 0 dX8_sleepShare_25 rfl rfl ?_
    obtain ⟨x10, e11, E⟩ := gb_some E
    refine r_getR X dX8_sleepShare_26 f_X8_10 e11 ?_
    refine r_iconst X (v := 2) dX8_sleepShare_29 (by decide) ?_
    obtain ⟨u15, e16, E⟩ := gb_some E
    obtain ⟨r12, g13, e14, E⟩ := cb_some E
    refine r_callV0 X hl0 (ci := 3) dX8_sleepShare_30 y_X3_sumOfHours m_X8_306 rfl rfl e16 (t_x3_sumOfHours (l := l) (G := G) e14) rfl rfl (Nat.le_of_ble_eq_true rfl) (by decide) ?_
    refine r_i2f X dX8_sleepShare_33 ?_
    refine r_iload_n X 1 dX8_sleepShare_34 rfl rfl ?_
    refine r_i2f X dX8_sleepShare_35 ?_
    by_cases c17 : n32 (FP.fdiv (FP.i2f r12) (FP.i2f (x3 * x7)))
    rotate_left
    · rw [if_neg c17] at E; cases E
    rw [if_pos c17] at E
    refine r_fdiv X dX8_sleepShare_36 c17 ?_
    cases E
    exact r_fret X hr dX8_sleepShare_37 (by decide) (by decide)
  · rw [if_neg c9] at E
    refine r_fconst0 X dX8_sleepShare_21 ?_
    refine r_goto X 37 dX8_sleepShare_22 (by decide) ?_
    cases E
    exact r_fret X hr dX8_sleepShare_37 (by decide) (by decide)
theorem t_x8_sleepShare {l : Launch} {G : GG} {p : Nat} {g : AH} {r : UInt32} {g1 : AH} (E : x8_sleepShare p g = some (r, g1)) : Ct l G yX8_sleepShare cX8_sleepShare 2 (some .float) ⟨2, 0, 0, 83⟩ [.ref p] g (some (.float r)) g1 :=
  ct_of (L0 := [(0, .ref p)]) y_X8_sleepShare rfl (Nat.le_of_ble_eq_true rfl) fun M hl0 X hr hnm => t_x8_sleepShare_b X hl0 hr hnm E
set_option maxHeartbeats 4000000 in
set_option maxRecDepth 100000 in
theorem t_x8_demandForeseeable_b {l : Launch} {G : GG} {M : MC} (X : CX M G cX8_demandForeseeable 1 RX8 ⟨7, 1, 6, 200⟩) (hl0 : M.2.1 = l) (hr : (mM M).sig.returnType = none) (hnm : (mM M).name = yX8_demandForeseeable.name) (hnt : ∀ x ∈ (mC M).exceptionTable.toList, False) (hst : l.stackTraces = false) {b0 : Int32} {g : AH} {o : (Unit ⊕ String)} {g1 : AH} (E : x8_demandForeseeable b0 g = some (o, g1)) : WW M G 1 (RX M G (ovU o) g1 1 6) 0 0 g 0 [(0, .int b0)] [] := by
  unfold x8_demandForeseeable at E
  refine r_iload_n X 0 dX8_demandForeseeable_0 rfl rfl ?_
  refine r_iconst X (v := 0) dX8_demandForeseeable_1 (by decide) ?_
  refine r_bipush X (v := 96) dX8_demandForeseeable_2 (by decide) ?_
  obtain ⟨r1, g2, e3, E⟩ := cb_some E
  refine r_callS0 X hl0 dX8_demandForeseeable_4 y_X8_isWithin m_X8_100 (t_x8_isWithin (l := l) (G := G) e3) rfl rfl (Nat.le_of_ble_eq_true rfl) (by decide) ?_
  refine r_if_ne X 21 dX8_demandForeseeable_7 (by decide) (fun c4 => ?_) (fun c4 => ?_)
  · rw [if_neg c4] at E
    cases E
    exact r_ret (r_vret X hr dX8_demandForeseeable_21 (by decide) (by decide))
  · rw [if_pos c4] at E
    cases E
    exact r_throwW X hl0 hst hnt th_X8_108 k_X8_104 (List.mem_of_getElem? (i := 8) rfl) dX8_demandForeseeable_10 dX8_demandForeseeable_13 dX8_demandForeseeable_14 dX8_demandForeseeable_17 dX8_demandForeseeable_20 ⟨by decide, Nat.le_of_ble_eq_true rfl⟩ (by decide) (by decide)
theorem t_x8_demandForeseeable {l : Launch} (hst : l.stackTraces = false) {G : GG} {b0 : Int32} {g : AH} {o : (Unit ⊕ String)} {g1 : AH} (E : x8_demandForeseeable b0 g = some (o, g1)) : CtX l G yX8_demandForeseeable cX8_demandForeseeable 1 none ⟨7, 1, 6, 200⟩ [.int b0] g (ovU o) g1 :=
  ctX_of (L0 := [(0, .int b0)]) y_X8_demandForeseeable rfl (Nat.le_of_ble_eq_true rfl) fun M hl0 X hr hnm hnt => t_x8_demandForeseeable_b X hl0 hr hnm hnt hst E
set_option maxHeartbeats 4000000 in
set_option maxRecDepth 100000 in
theorem t_x3_passTimeUnwatched_l2 {l : Launch} {G : GG} {M : MC} (X : CX M G cX3_passTimeUnwatched 3 RX3 ⟨4, 0, 0, 126⟩) (hl0 : M.2.1 = l) (hr : (mM M).sig.returnType = none) (hnm : (mM M).name = yX3_passTimeUnwatched.name) {Q : State → Prop} {kc ks : Nat} {s9 : ((Int32) ⊕ (Unit))} {g1 : AH} {a0 : Nat} {a1 : Int32} {s0 : Int32} (hc : ∀ s1, s9 = .inl s1 → WW M G 3 Q kc ks g1 2 [(0, .ref a0), (1, .int a1), (2, .int s1)] []) (hx : ∀ t, s9 = .inr t → WW M G 3 Q kc ks g1 21 [] []) {g : AH} (E : x3_passTimeUnwatched_l2 a0 a1 s0 g = some (s9, g1)) : WW M G 3 Q kc ks g 2 [(0, .ref a0), (1, .int a1), (2, .int s0)] [] := by
  unfold x3_passTimeUnwatched_l2 at E
  refine r_iload_n X 2 dX3_passTimeUnwatched_2 rfl rfl ?_
  refine r_iload_n X 1 dX3_passTimeUnwatched_3 rfl rfl ?_
  refine r_icmp_ge X 21 dX3_passTimeUnwatched_4 (by decide) (fun c1 => ?_) (fun c1 => ?_)
  · rw [if_pos c1] at E
    cases E
    exact r_pick (by rfl : lpick [(0, .ref a0), (1, .int a1), (2, .int s0)] [] = _) (hx _ rfl)
  · rw [if_neg c1] at E
    refine r_aload_n X 0 dX3_passTimeUnwatched_7 rfl rfl ?_
    obtain ⟨u5, e6, E⟩ := gb_some E
    obtain ⟨r2, g3, e4, E⟩ := cb_some E
    refine r_callV0 X hl0 (ci := 3) dX3_passTimeUnwatched_8 y_X3_burnLogs m_X3_197 rfl rfl e6 (t_x3_burnLogs (l := l) (G := G) e4) rfl rfl (Nat.le_of_ble_eq_true rfl) (by decide) ?_
    refine r_aload_n X 0 dX3_passTimeUnwatched_11 rfl rfl ?_
    obtain ⟨u10, e11, E⟩ := gb_some E
    obtain ⟨r7, g8, e9, E⟩ := cb_some E
    refine r_callV0 X hl0 (ci := 3) dX3_passTimeUnwatched_12 y_X3_endHour m_X3_203 rfl rfl e11 (t_x3_endHour (l := l) (G := G) e9) rfl rfl (Nat.le_of_ble_eq_true rfl) (by decide) ?_
    refine r_iinc X (v := (s0 + 1)) (L1 := [(2, .int (s0 + 1)), (0, .ref a0), (1, .int a1)]) dX3_passTimeUnwatched_15 rfl rfl (by decide) rfl ?_
    refine r_goto X 2 dX3_passTimeUnwatched_18 (by decide) ?_
    cases E
    exact r_pick (by rfl : lpick [(2, .int (s0 + 1)), (0, .ref a0), (1, .int a1)] [1, 2, 0] = _) (hc _ rfl)
set_option maxHeartbeats 4000000 in
theorem t_x3_passTimeUnwatched_l2_r {l : Launch} {G : GG} {M : MC} (X : CX M G cX3_passTimeUnwatched 3 RX3 ⟨4, 0, 0, 126⟩) (hl0 : M.2.1 = l) (hr : (mM M).sig.returnType = none) (hnm : (mM M).name = yX3_passTimeUnwatched.name) {Q : State → Prop} {kc ks : Nat} {a0 : Nat} {a1 : Int32} : ∀ (n : Nat) (s0 : Int32) (g : AH) (t : (Unit)) (g1 : AH), loopX (x3_passTimeUnwatched_l2 a0 a1) n s0 g = some (t, g1) → WW M G 3 Q kc ks g1 21 [] [] → WW M G 3 Q kc ks g 2 [(0, .ref a0), (1, .int a1), (2, .int s0)] [] :=
  loop_cps (K := fun t g1 => WW M G 3 Q kc ks g1 21 [] []) (fun _ s0 g => WW M G 3 Q kc ks g 2 [(0, .ref a0), (1, .int a1), (2, .int s0)] []) (fun n s0 g st g1 E hc hx => t_x3_passTimeUnwatched_l2 X hl0 hr hnm hc hx E)
set_option maxHeartbeats 4000000 in
set_option maxRecDepth 100000 in
theorem t_x3_passTimeUnwatched_b {l : Launch} {G : GG} {M : MC} (X : CX M G cX3_passTimeUnwatched 3 RX3 ⟨4, 0, 0, 126⟩) (hl0 : M.2.1 = l) (hr : (mM M).sig.returnType = none) (hnm : (mM M).name = yX3_passTimeUnwatched.name) {p : Nat} {b0 : Int32} {g : AH} {r : Unit} {g1 : AH} (E : x3_passTimeUnwatched p b0 g = some (r, g1)) : WW M G 3 (RQ M G none g1 0 0) 0 0 g 0 [(0, .ref p), (1, .int b0)] [] := by
  unfold x3_passTimeUnwatched at E
  refine r_iconst X (v := 0) dX3_passTimeUnwatched_0 (by decide) ?_
  refine r_istore_n X 2 (L1 := [(2, .int 0), (0, .ref p), (1, .int b0)]) dX3_passTimeUnwatched_1 rfl (by decide) rfl ?_
  obtain ⟨t1, g2, e3, E⟩ := cb_some E
  refine r_pick (by rfl : lpick [(2, .int 0), (0, .ref p), (1, .int b0)] [1, 2, 0] = _) (t_x3_passTimeUnwatched_l2_r X hl0 hr hnm _ _ _ _ _ e3 ?_)
  cases E
  exact r_vret X hr dX3_passTimeUnwatched_21 (by decide) (by decide)
theorem t_x3_passTimeUnwatched {l : Launch} {G : GG} {p : Nat} {b0 : Int32} {g : AH} {r : Unit} {g1 : AH} (E : x3_passTimeUnwatched p b0 g = some (r, g1)) : Ct l G yX3_passTimeUnwatched cX3_passTimeUnwatched 3 none ⟨4, 0, 0, 126⟩ [.ref p, .int b0] g none g1 :=
  ct_of (L0 := [(0, .ref p), (1, .int b0)]) y_X3_passTimeUnwatched rfl (Nat.le_of_ble_eq_true rfl) fun M hl0 X hr hnm => t_x3_passTimeUnwatched_b X hl0 hr hnm E
set_option maxHeartbeats 4000000 in
set_option maxRecDepth 100000 in
theorem t_x5_temperatureIn_b {l : Launch} {G : GG} {M : MC} (X : CX M G cX5_temperatureIn 3 RX5 ⟨5, 0, 0, 193⟩) (hl0 : M.2.1 = l) (hr : (mM M).sig.returnType = (some .int)) (hnm : (mM M).name = yX5_temperatureIn.name) {p : Nat} {b0 : Nat} {b1 : Int32} {g : AH} {r : Int32} {g1 : AH} (E : x5_temperatureIn p b0 b1 g = some (r, g1)) : WW M G 3 (RQ M G (some (.int r)) g1 0 0) 0 0 g 0 [(0, .ref p), (1, .ref b0), (2, .int b1)] [] := by
  unfold x5_temperatureIn at E
  refine r_aload_n X 0 dX5_temperatureIn_0 rfl rfl ?_
  obtain ⟨x1, e2, E⟩ := gb_some E
  refine r_getR X dX5_temperatureIn_1 f_X5_12 e2 ?_
  refine r_aload_n X 1 dX5_temperatureIn_4 rfl rfl ?_
  obtain ⟨u6, e7, E⟩ := gb_some E
  obtain ⟨r3, g4, e5, E⟩ := cb_some E
  refine r_callV0 X hl0 (ci := 3) dX5_temperatureIn_5 y_X3_copyFrom m_X5_18 rfl rfl e7 (t_x3_copyFrom (l := l) (G := G) e5) rfl rfl (Nat.le_of_ble_eq_true rfl) (by decide) ?_
  refine r_aload_n X 0 dX5_temperatureIn_8 rfl rfl ?_
  obtain ⟨x8, e9, E⟩ := gb_some E
  refine r_getR X dX5_temperatureIn_9 f_X5_12 e9 ?_
  refine r_iload_n X 2 dX5_temperatureIn_12 rfl rfl ?_
  obtain ⟨u13, e14, E⟩ := gb_some E
  obtain ⟨r10, g11, e12, E⟩ := cb_some E
  refine r_callV0 X hl0 (ci := 3) dX5_temperatureIn_13 y_X3_passTimeUnwatched m_X5_62 rfl rfl e14 (t_x3_passTimeUnwatched (l := l) (G := G) e12) rfl rfl (Nat.le_of_ble_eq_true rfl) (by decide) ?_
  refine r_aload_n X 0 dX5_temperatureIn_16 rfl rfl ?_
  obtain ⟨x15, e16, E⟩ := gb_some E
  refine r_getR X dX5_temperatureIn_17 f_X5_12 e16 ?_
  obtain ⟨u20, e21, E⟩ := gb_some E
  obtain ⟨r17, g18, e19, E⟩ := cb_some E
  refine r_callV0 X hl0 (ci := 3) dX5_temperatureIn_20 y_X3_temperatureInside m_X5_66 rfl rfl e21 (t_x3_temperatureInside (l := l) (G := G) e19) rfl rfl (Nat.le_of_ble_eq_true rfl) (by decide) ?_
  cases E
  exact r_iret X hr dX5_temperatureIn_23 (by decide) (by decide)
theorem t_x5_temperatureIn {l : Launch} {G : GG} {p : Nat} {b0 : Nat} {b1 : Int32} {g : AH} {r : Int32} {g1 : AH} (E : x5_temperatureIn p b0 b1 g = some (r, g1)) : Ct l G yX5_temperatureIn cX5_temperatureIn 3 (some .int) ⟨5, 0, 0, 193⟩ [.ref p, .ref b0, .int b1] g (some (.int r)) g1 :=
  ct_of (L0 := [(0, .ref p), (1, .ref b0), (2, .int b1)]) y_X5_temperatureIn rfl (Nat.le_of_ble_eq_true rfl) fun M hl0 X hr hnm => t_x5_temperatureIn_b X hl0 hr hnm E
set_option maxHeartbeats 4000000 in
set_option maxRecDepth 100000 in
theorem t_x8_temperatureAfter_b {l : Launch} {G : GG} {M : MC} (X : CX M G cX8_temperatureAfter 2 RX8 ⟨8, 1, 6, 220⟩) (hl0 : M.2.1 = l) (hr : (mM M).sig.returnType = (some .int)) (hnm : (mM M).name = yX8_temperatureAfter.name) (hnt : ∀ x ∈ (mC M).exceptionTable.toList, False) (hst : l.stackTraces = false) {p : Nat} {b0 : Int32} {g : AH} {o : (Int32 ⊕ String)} {g1 : AH} (E : x8_temperatureAfter p b0 g = some (o, g1)) : WW M G 2 (RX M G (ovI o) g1 1 6) 0 0 g 0 [(0, .ref p), (1, .int b0)] [] := by
  unfold x8_temperatureAfter at E
  refine r_iload_n X 1 dX8_temperatureAfter_0 rfl rfl ?_
  obtain ⟨r1, g2, e3, E⟩ := cb_some E
  rcases r1 with v4 | w5
  · rw [Sum.elim_inl] at E
    refine r_callSX X hl0 dX8_temperatureAfter_1 y_X8_demandForeseeable m_X8_309 (t_x8_demandForeseeable (l := l) hst (G := G) e3) rfl rfl (Nat.le_of_ble_eq_true rfl) (by decide) ?_
    refine r_aload_n X 0 dX8_temperatureAfter_4 rfl rfl ?_
    obtain ⟨x6, e7, E⟩ := gb_some E
    refine r_getR X dX8_temperatureAfter_5 f_X8_22 e7 ?_
    refine r_aload_n X 0 dX8_temperatureAfter_8 rfl rfl ?_
    obtain ⟨x8, e9, E⟩ := gb_some E
    refine r_getR X dX8_temperatureAfter_9 f_X8_10 e9 ?_
    refine r_iload_n X 1 dX8_temperatureAfter_12 rfl rfl ?_
    obtain ⟨u13, e14, E⟩ := gb_some E
    obtain ⟨r10, g11, e12, E⟩ := cb_some E
    refine r_callV0 X hl0 (ci := 5) dX8_temperatureAfter_13 y_X5_temperatureIn m_X8_312 rfl rfl e14 (t_x5_temperatureIn (l := l) (G := G) e12) rfl rfl (Nat.le_of_ble_eq_true rfl) (by decide) ?_
    cases E
    exact r_ret (r_iret X hr dX8_temperatureAfter_16 (by decide) (by decide))
  · rw [Sum.elim_inr] at E
    cases E
    exact r_thrS X hl0 hnt dX8_temperatureAfter_1 y_X8_demandForeseeable m_X8_309 (t_x8_demandForeseeable (l := l) hst (G := G) e3) rfl rfl (Nat.le_of_ble_eq_true rfl) (by decide) (by decide) (by decide)
theorem t_x8_temperatureAfter {l : Launch} (hst : l.stackTraces = false) {G : GG} {p : Nat} {b0 : Int32} {g : AH} {o : (Int32 ⊕ String)} {g1 : AH} (E : x8_temperatureAfter p b0 g = some (o, g1)) : CtX l G yX8_temperatureAfter cX8_temperatureAfter 2 (some .int) ⟨8, 1, 6, 220⟩ [.ref p, .int b0] g (ovI o) g1 :=
  ctX_of (L0 := [(0, .ref p), (1, .int b0)]) y_X8_temperatureAfter rfl (Nat.le_of_ble_eq_true rfl) fun M hl0 X hr hnm hnt => t_x8_temperatureAfter_b X hl0 hr hnm hnt hst E
set_option maxHeartbeats 4000000 in
set_option maxRecDepth 100000 in
theorem t_x5_shiversToDawn_b {l : Launch} {G : GG} {M : MC} (X : CX M G cX5_shiversToDawn 3 RX5 ⟨5, 0, 0, 193⟩) (hl0 : M.2.1 = l) (hr : (mM M).sig.returnType = (some .int)) (hnm : (mM M).name = yX5_shiversToDawn.name) {p : Nat} {b0 : Nat} {b1 : Int32} {g : AH} {r : Int32} {g1 : AH} (E : x5_shiversToDawn p b0 b1 g = some (r, g1)) : WW M G 3 (RQ M G (some (.int r)) g1 0 0) 0 0 g 0 [(0, .ref p), (1, .ref b0), (2, .int b1)] [] := by
  unfold x5_shiversToDawn at E
  refine r_aload_n X 0 dX5_shiversToDawn_0 rfl rfl ?_
  obtain ⟨x1, e2, E⟩ := gb_some E
  refine r_getR X dX5_shiversToDawn_1 f_X5_12 e2 ?_
  refine r_aload_n X 1 dX5_shiversToDawn_4 rfl rfl ?_
  obtain ⟨u6, e7, E⟩ := gb_some E
  obtain ⟨r3, g4, e5, E⟩ := cb_some E
  refine r_callV0 X hl0 (ci := 3) dX5_shiversToDawn_5 y_X3_copyFrom m_X5_18 rfl rfl e7 (t_x3_copyFrom (l := l) (G := G) e5) rfl rfl (Nat.le_of_ble_eq_true rfl) (by decide) ?_
  refine r_aload_n X 0 dX5_shiversToDawn_8 rfl rfl ?_
  obtain ⟨x8, e9, E⟩ := gb_some E
  refine r_getR X dX5_shiversToDawn_9 f_X5_12 e9 ?_
  refine r_aload_n X 1 dX5_shiversToDawn_12 rfl rfl ?_
  obtain ⟨u13, e14, E⟩ := gb_some E
  obtain ⟨r10, g11, e12, E⟩ := cb_some E
  refine r_callV0 X hl0 (ci := 3) dX5_shiversToDawn_13 y_X3_hoursToDawn m_X5_70 rfl rfl e14 (t_x3_hoursToDawn (l := l) (G := G) e12) rfl rfl (Nat.le_of_ble_eq_true rfl) (by decide) ?_
  obtain ⟨u18, e19, E⟩ := gb_some E
  obtain ⟨r15, g16, e17, E⟩ := cb_some E
  refine r_callV0 X hl0 (ci := 3) dX5_shiversToDawn_16 y_X3_passTime m_X5_73 rfl rfl e19 (t_x3_passTime (l := l) (G := G) e17) rfl rfl (Nat.le_of_ble_eq_true rfl) (by decide) ?_
  refine r_pop X dX5_shiversToDawn_19 rfl ?_
  refine r_aload_n X 0 dX5_shiversToDawn_20 rfl rfl ?_
  obtain ⟨x20, e21, E⟩ := gb_some E
  refine r_getR X dX5_shiversToDawn_21 f_X5_12 e21 ?_
  obtain ⟨x22, e23, E⟩ := gb_some E
  refine r_getR X dX5_shiversToDawn_24 f_X5_38 e23 ?_
  refine r_iload_n X 2 dX5_shiversToDawn_27 rfl rfl ?_
  obtain ⟨x24, e25, E⟩ := gb_some E
  refine r_aald X 4 (by decide) rfl dX5_shiversToDawn_28 e25 ?_
  obtain ⟨x26, e27, E⟩ := gb_some E
  refine r_getR X dX5_shiversToDawn_29 f_X5_76 e27 ?_
  refine r_iconst X (v := 0) dX5_shiversToDawn_32 (by decide) ?_
  obtain ⟨x28, e29, E⟩ := gb_some E
  refine r_iald X dX5_shiversToDawn_33 e29 ?_
  refine r_aload_n X 1 dX5_shiversToDawn_34 rfl rfl ?_
  obtain ⟨x30, e31, E⟩ := gb_some E
  refine r_getR X dX5_shiversToDawn_35 f_X5_38 e31 ?_
  refine r_iload_n X 2 dX5_shiversToDawn_38 rfl rfl ?_
  obtain ⟨x32, e33, E⟩ := gb_some E
  refine r_aald X 4 (by decide) rfl dX5_shiversToDawn_39 e33 ?_
  obtain ⟨x34, e35, E⟩ := gb_some E
  refine r_getR X dX5_shiversToDawn_40 f_X5_76 e35 ?_
  refine r_iconst X (v := 0) dX5_shiversToDawn_43 (by decide) ?_
  obtain ⟨x36, e37, E⟩ := gb_some E
  refine r_iald X dX5_shiversToDawn_44 e37 ?_
  refine r_isub X dX5_shiversToDawn_45 ?_
  cases E
  exact r_iret X hr dX5_shiversToDawn_46 (by decide) (by decide)
theorem t_x5_shiversToDawn {l : Launch} {G : GG} {p : Nat} {b0 : Nat} {b1 : Int32} {g : AH} {r : Int32} {g1 : AH} (E : x5_shiversToDawn p b0 b1 g = some (r, g1)) : Ct l G yX5_shiversToDawn cX5_shiversToDawn 3 (some .int) ⟨5, 0, 0, 193⟩ [.ref p, .ref b0, .int b1] g (some (.int r)) g1 :=
  ct_of (L0 := [(0, .ref p), (1, .ref b0), (2, .int b1)]) y_X5_shiversToDawn rfl (Nat.le_of_ble_eq_true rfl) fun M hl0 X hr hnm => t_x5_shiversToDawn_b X hl0 hr hnm E
set_option maxHeartbeats 4000000 in
set_option maxRecDepth 100000 in
theorem t_x8_shiversUntilDawn_b {l : Launch} {G : GG} {M : MC} (X : CX M G cX8_shiversUntilDawn 2 RX8 ⟨8, 1, 6, 221⟩) (hl0 : M.2.1 = l) (hr : (mM M).sig.returnType = (some .int)) (hnm : (mM M).name = yX8_shiversUntilDawn.name) (hnt : ∀ x ∈ (mC M).exceptionTable.toList, False) (hst : l.stackTraces = false) {p : Nat} {b0 : Int32} {g : AH} {o : (Int32 ⊕ String)} {g1 : AH} (E : x8_shiversUntilDawn p b0 g = some (o, g1)) : WW M G 2 (RX M G (ovI o) g1 1 6) 0 0 g 0 [(0, .ref p), (1, .int b0)] [] := by
  unfold x8_shiversUntilDawn at E
  refine r_aload_n X 0 dX8_shiversUntilDawn_0 rfl rfl ?_
  refine r_iload_n X 1 dX8_shiversUntilDawn_1 rfl rfl ?_
  obtain ⟨u4, e5, E⟩ := gb_some E
  obtain ⟨r1, g2, e3, E⟩ := cb_some E
  rcases r1 with v6 | w7
  · rw [Sum.elim_inl] at E
    refine r_callVX X hl0 (ci := 8) dX8_shiversUntilDawn_2 y_X8_demandHiker m_X8_181 rfl rfl e5 (t_x8_demandHiker (l := l) hst (G := G) e3) rfl rfl (Nat.le_of_ble_eq_true rfl) (by decide) ?_
    refine r_aload_n X 0 dX8_shiversUntilDawn_5 rfl rfl ?_
    obtain ⟨x8, e9, E⟩ := gb_some E
    refine r_getR X dX8_shiversUntilDawn_6 f_X8_22 e9 ?_
    refine r_aload_n X 0 dX8_shiversUntilDawn_9 rfl rfl ?_
    obtain ⟨x10, e11, E⟩ := gb_some E
    refine r_getR X dX8_shiversUntilDawn_10 f_X8_10 e11 ?_
    refine r_iload_n X 1 dX8_shiversUntilDawn_13 rfl rfl ?_
    obtain ⟨u15, e16, E⟩ := gb_some E
    obtain ⟨r12, g13, e14, E⟩ := cb_some E
    refine r_callV0 X hl0 (ci := 5) dX8_shiversUntilDawn_14 y_X5_shiversToDawn m_X8_315 rfl rfl e16 (t_x5_shiversToDawn (l := l) (G := G) e14) rfl rfl (Nat.le_of_ble_eq_true rfl) (by decide) ?_
    cases E
    exact r_ret (r_iret X hr dX8_shiversUntilDawn_17 (by decide) (by decide))
  · rw [Sum.elim_inr] at E
    cases E
    exact r_thrV X hl0 hnt (ci := 8) dX8_shiversUntilDawn_2 y_X8_demandHiker m_X8_181 rfl rfl e5 (t_x8_demandHiker (l := l) hst (G := G) e3) rfl rfl (Nat.le_of_ble_eq_true rfl) (by decide) (by decide) (by decide)
theorem t_x8_shiversUntilDawn {l : Launch} (hst : l.stackTraces = false) {G : GG} {p : Nat} {b0 : Int32} {g : AH} {o : (Int32 ⊕ String)} {g1 : AH} (E : x8_shiversUntilDawn p b0 g = some (o, g1)) : CtX l G yX8_shiversUntilDawn cX8_shiversUntilDawn 2 (some .int) ⟨8, 1, 6, 221⟩ [.ref p, .int b0] g (ovI o) g1 :=
  ctX_of (L0 := [(0, .ref p), (1, .int b0)]) y_X8_shiversUntilDawn rfl (Nat.le_of_ble_eq_true rfl) fun M hl0 X hr hnm hnt => t_x8_shiversUntilDawn_b X hl0 hr hnm hnt hst E
set_option maxHeartbeats 4000000 in
set_option maxRecDepth 100000 in
theorem t_x5_paymentNextDawn_b {l : Launch} {G : GG} {M : MC} (X : CX M G cX5_paymentNextDawn 3 RX5 ⟨5, 0, 0, 193⟩) (hl0 : M.2.1 = l) (hr : (mM M).sig.returnType = (some .int)) (hnm : (mM M).name = yX5_paymentNextDawn.name) {p : Nat} {b0 : Nat} {b1 : Int32} {g : AH} {r : Int32} {g1 : AH} (E : x5_paymentNextDawn p b0 b1 g = some (r, g1)) : WW M G 3 (RQ M G (some (.int r)) g1 0 0) 0 0 g 0 [(0, .ref p), (1, .ref b0), (2, .int b1)] [] := by
  unfold x5_paymentNextDawn at E
  refine r_aload_n X 0 dX5_paymentNextDawn_0 rfl rfl ?_
  obtain ⟨x1, e2, E⟩ := gb_some E
  refine r_getR X dX5_paymentNextDawn_1 f_X5_12 e2 ?_
  refine r_aload_n X 1 dX5_paymentNextDawn_4 rfl rfl ?_
  obtain ⟨u6, e7, E⟩ := gb_some E
  obtain ⟨r3, g4, e5, E⟩ := cb_some E
  refine r_callV0 X hl0 (ci := 3) dX5_paymentNextDawn_5 y_X3_copyFrom m_X5_18 rfl rfl e7 (t_x3_copyFrom (l := l) (G := G) e5) rfl rfl (Nat.le_of_ble_eq_true rfl) (by decide) ?_
  refine r_aload_n X 0 dX5_paymentNextDawn_8 rfl rfl ?_
  obtain ⟨x8, e9, E⟩ := gb_some E
  refine r_getR X dX5_paymentNextDawn_9 f_X5_12 e9 ?_
  refine r_aload_n X 1 dX5_paymentNextDawn_12 rfl rfl ?_
  obtain ⟨u13, e14, E⟩ := gb_some E
  obtain ⟨r10, g11, e12, E⟩ := cb_some E
  refine r_callV0 X hl0 (ci := 3) dX5_paymentNextDawn_13 y_X3_hoursToDawn m_X5_70 rfl rfl e14 (t_x3_hoursToDawn (l := l) (G := G) e12) rfl rfl (Nat.le_of_ble_eq_true rfl) (by decide) ?_
  refine r_iconst X (v := 1) dX5_paymentNextDawn_16 (by decide) ?_
  refine r_isub X dX5_paymentNextDawn_17 ?_
  obtain ⟨u18, e19, E⟩ := gb_some E
  obtain ⟨r15, g16, e17, E⟩ := cb_some E
  refine r_callV0 X hl0 (ci := 3) dX5_paymentNextDawn_18 y_X3_passTimeUnwatched m_X5_62 rfl rfl e19 (t_x3_passTimeUnwatched (l := l) (G := G) e17) rfl rfl (Nat.le_of_ble_eq_true rfl) (by decide) ?_
  refine r_aload_n X 0 dX5_paymentNextDawn_21 rfl rfl ?_
  obtain ⟨x20, e21, E⟩ := gb_some E
  refine r_getR X dX5_paymentNextDawn_22 f_X5_12 e21 ?_
  obtain ⟨u25, e26, E⟩ := gb_some E
  obtain ⟨r22, g23, e24, E⟩ := cb_some E
  refine r_callVN0 X hl0 (ci := 3) dX5_paymentNextDawn_25 y_X3_burnLogs (List.mem_of_getElem? (i := 10) rfl) rfl rfl e26 (t_x3_burnLogs (l := l) (G := G) e24) rfl rfl (Nat.le_of_ble_eq_true rfl) (by decide) ?_
  refine r_iconst X (v := 3) dX5_paymentNextDawn_28 (by decide) ?_
  refine r_aload_n X 0 dX5_paymentNextDawn_29 rfl rfl ?_
  obtain ⟨x27, e28, E⟩ := gb_some E
  refine r_getR X dX5_paymentNextDawn_30 f_X5_12 e28 ?_
  refine r_iload_n X 2 dX5_paymentNextDawn_33 rfl rfl ?_
  obtain ⟨u32, e33, E⟩ := gb_some E
  obtain ⟨r29, g30, e31, E⟩ := cb_some E
  refine r_callV0 X hl0 (ci := 3) dX5_paymentNextDawn_34 y_X3_partOfLogs m_X5_83 rfl rfl e33 (t_x3_partOfLogs (l := l) (G := G) e31) rfl rfl (Nat.le_of_ble_eq_true rfl) (by decide) ?_
  refine r_iadd X dX5_paymentNextDawn_37 ?_
  refine r_aload_n X 0 dX5_paymentNextDawn_38 rfl rfl ?_
  obtain ⟨x34, e35, E⟩ := gb_some E
  refine r_getR X dX5_paymentNextDawn_39 f_X5_12 e35 ?_
  obtain ⟨x36, e37, E⟩ := gb_some E
  refine r_getR X dX5_paymentNextDawn_42 f_X5_38 e37 ?_
  refine r_iload_n X 2 dX5_paymentNextDawn_45 rfl rfl ?_
  obtain ⟨x38, e39, E⟩ := gb_some E
  refine r_aald X 4 (by decide) rfl dX5_paymentNextDawn_46 e39 ?_
  obtain ⟨u43, e44, E⟩ := gb_some E
  obtain ⟨r40, g41, e42, E⟩ := cb_some E
  refine r_callV0 X hl0 (ci := 1) dX5_paymentNextDawn_47 y_X1_feeForBlanket m_X5_86 rfl rfl e44 (t_x1_feeForBlanket (l := l) (G := G) e42) rfl rfl (Nat.le_of_ble_eq_true rfl) (by decide) ?_
  refine r_iadd X dX5_paymentNextDawn_50 ?_
  cases E
  exact r_iret X hr dX5_paymentNextDawn_51 (by decide) (by decide)
theorem t_x5_paymentNextDawn {l : Launch} {G : GG} {p : Nat} {b0 : Nat} {b1 : Int32} {g : AH} {r : Int32} {g1 : AH} (E : x5_paymentNextDawn p b0 b1 g = some (r, g1)) : Ct l G yX5_paymentNextDawn cX5_paymentNextDawn 3 (some .int) ⟨5, 0, 0, 193⟩ [.ref p, .ref b0, .int b1] g (some (.int r)) g1 :=
  ct_of (L0 := [(0, .ref p), (1, .ref b0), (2, .int b1)]) y_X5_paymentNextDawn rfl (Nat.le_of_ble_eq_true rfl) fun M hl0 X hr hnm => t_x5_paymentNextDawn_b X hl0 hr hnm E
set_option maxHeartbeats 4000000 in
set_option maxRecDepth 100000 in
theorem t_x8_paymentAtDawn_b {l : Launch} {G : GG} {M : MC} (X : CX M G cX8_paymentAtDawn 2 RX8 ⟨8, 1, 6, 221⟩) (hl0 : M.2.1 = l) (hr : (mM M).sig.returnType = (some .int)) (hnm : (mM M).name = yX8_paymentAtDawn.name) (hnt : ∀ x ∈ (mC M).exceptionTable.toList, False) (hst : l.stackTraces = false) {p : Nat} {b0 : Int32} {g : AH} {o : (Int32 ⊕ String)} {g1 : AH} (E : x8_paymentAtDawn p b0 g = some (o, g1)) : WW M G 2 (RX M G (ovI o) g1 1 6) 0 0 g 0 [(0, .ref p), (1, .int b0)] [] := by
  unfold x8_paymentAtDawn at E
  refine r_aload_n X 0 dX8_paymentAtDawn_0 rfl rfl ?_
  refine r_iload_n X 1 dX8_paymentAtDawn_1 rfl rfl ?_
  obtain ⟨u4, e5, E⟩ := gb_some E
  obtain ⟨r1, g2, e3, E⟩ := cb_some E
  rcases r1 with v6 | w7
  · rw [Sum.elim_inl] at E
    refine r_callVX X hl0 (ci := 8) dX8_paymentAtDawn_2 y_X8_demandHiker m_X8_181 rfl rfl e5 (t_x8_demandHiker (l := l) hst (G := G) e3) rfl rfl (Nat.le_of_ble_eq_true rfl) (by decide) ?_
    refine r_aload_n X 0 dX8_paymentAtDawn_5 rfl rfl ?_
    obtain ⟨x8, e9, E⟩ := gb_some E
    refine r_getR X dX8_paymentAtDawn_6 f_X8_22 e9 ?_
    refine r_aload_n X 0 dX8_paymentAtDawn_9 rfl rfl ?_
    obtain ⟨x10, e11, E⟩ := gb_some E
    refine r_getR X dX8_paymentAtDawn_10 f_X8_10 e11 ?_
    refine r_iload_n X 1 dX8_paymentAtDawn_13 rfl rfl ?_
    obtain ⟨u15, e16, E⟩ := gb_some E
    obtain ⟨r12, g13, e14, E⟩ := cb_some E
    refine r_callV0 X hl0 (ci := 5) dX8_paymentAtDawn_14 y_X5_paymentNextDawn m_X8_318 rfl rfl e16 (t_x5_paymentNextDawn (l := l) (G := G) e14) rfl rfl (Nat.le_of_ble_eq_true rfl) (by decide) ?_
    cases E
    exact r_ret (r_iret X hr dX8_paymentAtDawn_17 (by decide) (by decide))
  · rw [Sum.elim_inr] at E
    cases E
    exact r_thrV X hl0 hnt (ci := 8) dX8_paymentAtDawn_2 y_X8_demandHiker m_X8_181 rfl rfl e5 (t_x8_demandHiker (l := l) hst (G := G) e3) rfl rfl (Nat.le_of_ble_eq_true rfl) (by decide) (by decide) (by decide)
theorem t_x8_paymentAtDawn {l : Launch} (hst : l.stackTraces = false) {G : GG} {p : Nat} {b0 : Int32} {g : AH} {o : (Int32 ⊕ String)} {g1 : AH} (E : x8_paymentAtDawn p b0 g = some (o, g1)) : CtX l G yX8_paymentAtDawn cX8_paymentAtDawn 2 (some .int) ⟨8, 1, 6, 221⟩ [.ref p, .int b0] g (ovI o) g1 :=
  ctX_of (L0 := [(0, .ref p), (1, .int b0)]) y_X8_paymentAtDawn rfl (Nat.le_of_ble_eq_true rfl) fun M hl0 X hr hnm hnt => t_x8_paymentAtDawn_b X hl0 hr hnm hnt hst E
set_option maxHeartbeats 4000000 in
set_option maxRecDepth 100000 in
theorem t_x5_debtIn_b {l : Launch} {G : GG} {M : MC} (X : CX M G cX5_debtIn 4 RX5 ⟨5, 0, 0, 193⟩) (hl0 : M.2.1 = l) (hr : (mM M).sig.returnType = (some .int)) (hnm : (mM M).name = yX5_debtIn.name) {p : Nat} {b0 : Nat} {b1 : Int32} {b2 : Int32} {g : AH} {r : Int32} {g1 : AH} (E : x5_debtIn p b0 b1 b2 g = some (r, g1)) : WW M G 4 (RQ M G (some (.int r)) g1 0 0) 0 0 g 0 [(0, .ref p), (1, .ref b0), (2, .int b1), (3, .int b2)] [] := by
  unfold x5_debtIn at E
  refine r_aload_n X 0 dX5_debtIn_0 rfl rfl ?_
  obtain ⟨x1, e2, E⟩ := gb_some E
  refine r_getR X dX5_debtIn_1 f_X5_12 e2 ?_
  refine r_aload_n X 1 dX5_debtIn_4 rfl rfl ?_
  obtain ⟨u6, e7, E⟩ := gb_some E
  obtain ⟨r3, g4, e5, E⟩ := cb_some E
  refine r_callV0 X hl0 (ci := 3) dX5_debtIn_5 y_X3_copyFrom m_X5_18 rfl rfl e7 (t_x3_copyFrom (l := l) (G := G) e5) rfl rfl (Nat.le_of_ble_eq_true rfl) (by decide) ?_
  refine r_aload_n X 0 dX5_debtIn_8 rfl rfl ?_
  obtain ⟨x8, e9, E⟩ := gb_some E
  refine r_getR X dX5_debtIn_9 f_X5_12 e9 ?_
  refine r_iload_n X 3 dX5_debtIn_12 rfl rfl ?_
  obtain ⟨u13, e14, E⟩ := gb_some E
  obtain ⟨r10, g11, e12, E⟩ := cb_some E
  refine r_callV0 X hl0 (ci := 3) dX5_debtIn_13 y_X3_passTimeUnwatched m_X5_62 rfl rfl e14 (t_x3_passTimeUnwatched (l := l) (G := G) e12) rfl rfl (Nat.le_of_ble_eq_true rfl) (by decide) ?_
  refine r_aload_n X 0 dX5_debtIn_16 rfl rfl ?_
  obtain ⟨x15, e16, E⟩ := gb_some E
  refine r_getR X dX5_debtIn_17 f_X5_12 e16 ?_
  obtain ⟨x17, e18, E⟩ := gb_some E
  refine r_getR X dX5_debtIn_20 f_X5_38 e18 ?_
  refine r_iload_n X 2 dX5_debtIn_23 rfl rfl ?_
  obtain ⟨x19, e20, E⟩ := gb_some E
  refine r_aald X 4 (by decide) rfl dX5_debtIn_24 e20 ?_
  obtain ⟨x21, e22, E⟩ := gb_some E
  refine r_getI X dX5_debtIn_25 f_X5_89 e22 ?_
  cases E
  exact r_iret X hr dX5_debtIn_28 (by decide) (by decide)
theorem t_x5_debtIn {l : Launch} {G : GG} {p : Nat} {b0 : Nat} {b1 : Int32} {b2 : Int32} {g : AH} {r : Int32} {g1 : AH} (E : x5_debtIn p b0 b1 b2 g = some (r, g1)) : Ct l G yX5_debtIn cX5_debtIn 4 (some .int) ⟨5, 0, 0, 193⟩ [.ref p, .ref b0, .int b1, .int b2] g (some (.int r)) g1 :=
  ct_of (L0 := [(0, .ref p), (1, .ref b0), (2, .int b1), (3, .int b2)]) y_X5_debtIn rfl (Nat.le_of_ble_eq_true rfl) fun M hl0 X hr hnm => t_x5_debtIn_b X hl0 hr hnm E
set_option maxHeartbeats 4000000 in
set_option maxRecDepth 100000 in
theorem t_x8_debtAfter_b {l : Launch} {G : GG} {M : MC} (X : CX M G cX8_debtAfter 3 RX8 ⟨8, 2, 12, 221⟩) (hl0 : M.2.1 = l) (hr : (mM M).sig.returnType = (some .int)) (hnm : (mM M).name = yX8_debtAfter.name) (hnt : ∀ x ∈ (mC M).exceptionTable.toList, False) (hst : l.stackTraces = false) {p : Nat} {b0 : Int32} {b1 : Int32} {g : AH} {o : (Int32 ⊕ String)} {g1 : AH} (E : x8_debtAfter p b0 b1 g = some (o, g1)) : WW M G 3 (RX M G (ovI o) g1 2 12) 0 0 g 0 [(0, .ref p), (1, .int b0), (2, .int b1)] [] := by
  unfold x8_debtAfter at E
  refine r_aload_n X 0 dX8_debtAfter_0 rfl rfl ?_
  refine r_iload_n X 1 dX8_debtAfter_1 rfl rfl ?_
  obtain ⟨u4, e5, E⟩ := gb_some E
  obtain ⟨r1, g2, e3, E⟩ := cb_some E
  rcases r1 with v6 | w7
  · rw [Sum.elim_inl] at E
    refine r_callVX X hl0 (ci := 8) dX8_debtAfter_2 y_X8_demandHiker m_X8_181 rfl rfl e5 (t_x8_demandHiker (l := l) hst (G := G) e3) rfl rfl (Nat.le_of_ble_eq_true rfl) (by decide) ?_
    refine r_iload_n X 2 dX8_debtAfter_5 rfl rfl ?_
    obtain ⟨r8, g9, e10, E⟩ := cb_some E
    rcases r8 with v11 | w12
    · rw [Sum.elim_inl] at E
      refine r_callSX X hl0 dX8_debtAfter_6 y_X8_demandForeseeable m_X8_309 (t_x8_demandForeseeable (l := l) hst (G := G) e10) rfl rfl (Nat.le_of_ble_eq_true rfl) (by decide) ?_
      refine r_aload_n X 0 dX8_debtAfter_9 rfl rfl ?_
      obtain ⟨x13, e14, E⟩ := gb_some E
      refine r_getR X dX8_debtAfter_10 f_X8_22 e14 ?_
      refine r_aload_n X 0 dX8_debtAfter_13 rfl rfl ?_
      obtain ⟨x15, e16, E⟩ := gb_some E
      refine r_getR X dX8_debtAfter_14 f_X8_10 e16 ?_
      refine r_iload_n X 1 dX8_debtAfter_17 rfl rfl ?_
      refine r_iload_n X 2 dX8_debtAfter_18 rfl rfl ?_
      obtain ⟨u20, e21, E⟩ := gb_some E
      obtain ⟨r17, g18, e19, E⟩ := cb_some E
      refine r_callV0 X hl0 (ci := 5) dX8_debtAfter_19 y_X5_debtIn m_X8_321 rfl rfl e21 (t_x5_debtIn (l := l) (G := G) e19) rfl rfl (Nat.le_of_ble_eq_true rfl) (by decide) ?_
      cases E
      exact r_ret (r_iret X hr dX8_debtAfter_22 (by decide) (by decide))
    · rw [Sum.elim_inr] at E
      cases E
      exact r_thrS X hl0 hnt dX8_debtAfter_6 y_X8_demandForeseeable m_X8_309 (t_x8_demandForeseeable (l := l) hst (G := G) e10) rfl rfl (Nat.le_of_ble_eq_true rfl) (by decide) (by decide) (by decide)
  · rw [Sum.elim_inr] at E
    cases E
    exact r_thrV X hl0 hnt (ci := 8) dX8_debtAfter_2 y_X8_demandHiker m_X8_181 rfl rfl e5 (t_x8_demandHiker (l := l) hst (G := G) e3) rfl rfl (Nat.le_of_ble_eq_true rfl) (by decide) (by decide) (by decide)
theorem t_x8_debtAfter {l : Launch} (hst : l.stackTraces = false) {G : GG} {p : Nat} {b0 : Int32} {b1 : Int32} {g : AH} {o : (Int32 ⊕ String)} {g1 : AH} (E : x8_debtAfter p b0 b1 g = some (o, g1)) : CtX l G yX8_debtAfter cX8_debtAfter 3 (some .int) ⟨8, 2, 12, 221⟩ [.ref p, .int b0, .int b1] g (ovI o) g1 :=
  ctX_of (L0 := [(0, .ref p), (1, .int b0), (2, .int b1)]) y_X8_debtAfter rfl (Nat.le_of_ble_eq_true rfl) fun M hl0 X hr hnm hnt => t_x8_debtAfter_b X hl0 hr hnm hnt hst E
set_option maxHeartbeats 4000000 in
set_option maxRecDepth 100000 in
theorem t_x5_dawnsToDebt_l10 {l : Launch} {G : GG} {M : MC} (X : CX M G cX5_dawnsToDebt 4 RX5 ⟨5, 0, 0, 193⟩) (hl0 : M.2.1 = l) (hr : (mM M).sig.returnType = (some .int)) (hnm : (mM M).name = yX5_dawnsToDebt.name) {Q : State → Prop} {kc ks : Nat} {s9 : ((Int32) ⊕ ((Unit) ⊕ Int32))} {g1 : AH} {a0 : Nat} {a2 : Int32} {s0 : Int32} (hc : ∀ s1, s9 = .inl s1 → WW M G 4 Q kc ks g1 10 [(0, .ref a0), (2, .int a2), (3, .int s1)] []) (hx : ∀ t, s9 = .inr t → Sum.elim (fun t1 => WW M G 4 Q kc ks g1 53 [] []) (fun t2 => ∃ mc ms : Nat, kc ≤ mc ∧ ks ≤ ms ∧ Q = RQ M G (some (.int t2)) g1 mc ms) t) {g : AH} (E : x5_dawnsToDebt_l10 a0 a2 s0 g = some (s9, g1)) : WW M G 4 Q kc ks g 10 [(0, .ref a0), (2, .int a2), (3, .int s0)] [] := by
  unfold x5_dawnsToDebt_l10 at E
  refine r_iload_n X 3 dX5_dawnsToDebt_10 rfl rfl ?_
  refine r_bipush X (v := 12) dX5_dawnsToDebt_11 (by decide) ?_
  refine r_icmp_gt X 53 dX5_dawnsToDebt_13 (by decide) (fun c1 => ?_) (fun c1 => ?_)
  · rw [if_pos c1] at E
    cases E
    exact r_pick (by rfl : lpick [(0, .ref a0), (2, .int a2), (3, .int s0)] [] = _) (hx _ rfl)
  · rw [if_neg c1] at E
    refine r_aload_n X 0 dX5_dawnsToDebt_16 rfl rfl ?_
    obtain ⟨x2, e3, E⟩ := gb_some E
    refine r_getR X dX5_dawnsToDebt_17 f_X5_12 e3 ?_
    obtain ⟨x4, e5, E⟩ := gb_some E
    refine r_getR X dX5_dawnsToDebt_20 f_X5_38 e5 ?_
    refine r_iload_n X 2 dX5_dawnsToDebt_23 rfl rfl ?_
    obtain ⟨x6, e7, E⟩ := gb_some E
    refine r_aald X 4 (by decide) rfl dX5_dawnsToDebt_24 e7 ?_
    obtain ⟨x8, e9, E⟩ := gb_some E
    refine r_getI X dX5_dawnsToDebt_25 f_X5_89 e9 ?_
    refine r_if_le X 33 dX5_dawnsToDebt_28 (by decide) (fun c10 => ?_) (fun c10 => ?_)
    · rw [if_pos c10] at E
      refine r_aload_n X 0 dX5_dawnsToDebt_33 rfl rfl ?_
      obtain ⟨x11, e12, E⟩ := gb_some E
      refine r_getR X dX5_dawnsToDebt_34 f_X5_12 e12 ?_
      refine r_aload_n X 0 dX5_dawnsToDebt_37 rfl rfl ?_
      obtain ⟨x13, e14, E⟩ := gb_some E
      refine r_getR X dX5_dawnsToDebt_38 f_X5_12 e14 ?_
      obtain ⟨u18, e19, E⟩ := gb_some E
      obtain ⟨r15, g16, e17, E⟩ := cb_some E
      refine r_callV0 X hl0 (ci := 3) dX5_dawnsToDebt_41 y_X3_hoursToDawn m_X5_70 rfl rfl e19 (t_x3_hoursToDawn (l := l) (G := G) e17) rfl rfl (Nat.le_of_ble_eq_true rfl) (by decide) ?_
      obtain ⟨u23, e24, E⟩ := gb_some E
      obtain ⟨r20, g21, e22, E⟩ := cb_some E
      refine r_callV0 X hl0 (ci := 3) dX5_dawnsToDebt_44 y_X3_passTimeUnwatched m_X5_62 rfl rfl e24 (t_x3_passTimeUnwatched (l := l) (G := G) e22) rfl rfl (Nat.le_of_ble_eq_true rfl) (by decide) ?_
      refine r_iinc X (v := (s0 + 1)) (L1 := [(3, .int (s0 + 1)), (0, .ref a0), (2, .int a2)]) dX5_dawnsToDebt_47 rfl rfl (by decide) rfl ?_
      refine r_goto X 10 dX5_dawnsToDebt_50 (by decide) ?_
      cases E
      exact r_pick (by rfl : lpick [(3, .int (s0 + 1)), (0, .ref a0), (2, .int a2)] [1, 2, 0] = _) (hc _ rfl)
    · rw [if_neg c10] at E
      refine r_iload_n X 3 dX5_dawnsToDebt_31 rfl rfl ?_
      cases E
      obtain ⟨mc9, ms9, h91, h92, rfl⟩ := hx _ rfl
      exact r_iret X hr dX5_dawnsToDebt_32 h91 h92
set_option maxHeartbeats 4000000 in
theorem t_x5_dawnsToDebt_l10_r {l : Launch} {G : GG} {M : MC} (X : CX M G cX5_dawnsToDebt 4 RX5 ⟨5, 0, 0, 193⟩) (hl0 : M.2.1 = l) (hr : (mM M).sig.returnType = (some .int)) (hnm : (mM M).name = yX5_dawnsToDebt.name) {Q : State → Prop} {kc ks : Nat} {a0 : Nat} {a2 : Int32} : ∀ (n : Nat) (s0 : Int32) (g : AH) (t : ((Unit) ⊕ Int32)) (g1 : AH), loopX (x5_dawnsToDebt_l10 a0 a2) n s0 g = some (t, g1) → Sum.elim (fun t1 => WW M G 4 Q kc ks g1 53 [] []) (fun t2 => ∃ mc ms : Nat, kc ≤ mc ∧ ks ≤ ms ∧ Q = RQ M G (some (.int t2)) g1 mc ms) t → WW M G 4 Q kc ks g 10 [(0, .ref a0), (2, .int a2), (3, .int s0)] [] :=
  loop_cps (K := fun t g1 => Sum.elim (fun t1 => WW M G 4 Q kc ks g1 53 [] []) (fun t2 => ∃ mc ms : Nat, kc ≤ mc ∧ ks ≤ ms ∧ Q = RQ M G (some (.int t2)) g1 mc ms) t) (fun _ s0 g => WW M G 4 Q kc ks g 10 [(0, .ref a0), (2, .int a2), (3, .int s0)] []) (fun n s0 g st g1 E hc hx => t_x5_dawnsToDebt_l10 X hl0 hr hnm hc hx E)
set_option maxHeartbeats 4000000 in
set_option maxRecDepth 100000 in
theorem t_x5_dawnsToDebt_b {l : Launch} {G : GG} {M : MC} (X : CX M G cX5_dawnsToDebt 4 RX5 ⟨5, 0, 0, 193⟩) (hl0 : M.2.1 = l) (hr : (mM M).sig.returnType = (some .int)) (hnm : (mM M).name = yX5_dawnsToDebt.name) {p : Nat} {b0 : Nat} {b1 : Int32} {g : AH} {r : Int32} {g1 : AH} (E : x5_dawnsToDebt p b0 b1 g = some (r, g1)) : WW M G 4 (RQ M G (some (.int r)) g1 0 0) 0 0 g 0 [(0, .ref p), (1, .ref b0), (2, .int b1)] [] := by
  unfold x5_dawnsToDebt at E
  refine r_aload_n X 0 dX5_dawnsToDebt_0 rfl rfl ?_
  obtain ⟨x1, e2, E⟩ := gb_some E
  refine r_getR X dX5_dawnsToDebt_1 f_X5_12 e2 ?_
  refine r_aload_n X 1 dX5_dawnsToDebt_4 rfl rfl ?_
  obtain ⟨u6, e7, E⟩ := gb_some E
  obtain ⟨r3, g4, e5, E⟩ := cb_some E
  refine r_callV0 X hl0 (ci := 3) dX5_dawnsToDebt_5 y_X3_copyFrom m_X5_18 rfl rfl e7 (t_x3_copyFrom (l := l) (G := G) e5) rfl rfl (Nat.le_of_ble_eq_true rfl) (by decide) ?_
  refine r_iconst X (v := 0) dX5_dawnsToDebt_8 (by decide) ?_
  refine r_istore_n X 3 (L1 := [(3, .int 0), (0, .ref p), (1, .ref b0), (2, .int b1)]) dX5_dawnsToDebt_9 rfl (by decide) rfl ?_
  obtain ⟨t8, g9, e10, E⟩ := cb_some E
  rcases t8 with t11 | t12
  · rw [Sum.elim_inl] at E
    refine r_pick (by rfl : lpick [(3, .int 0), (0, .ref p), (1, .ref b0), (2, .int b1)] [1, 3, 0] = _) (t_x5_dawnsToDebt_l10_r X hl0 hr hnm _ _ _ _ _ e10 ?_)
    refine r_iconst X (v := (-1)) dX5_dawnsToDebt_53 (by decide) ?_
    cases E
    exact r_iret X hr dX5_dawnsToDebt_54 (by decide) (by decide)
  · rw [Sum.elim_inr] at E
    cases E
    exact r_pick (by rfl : lpick [(3, .int 0), (0, .ref p), (1, .ref b0), (2, .int b1)] [1, 3, 0] = _) (t_x5_dawnsToDebt_l10_r X hl0 hr hnm _ _ _ _ _ e10 ⟨_, _, by decide, by decide, rfl⟩)
theorem t_x5_dawnsToDebt {l : Launch} {G : GG} {p : Nat} {b0 : Nat} {b1 : Int32} {g : AH} {r : Int32} {g1 : AH} (E : x5_dawnsToDebt p b0 b1 g = some (r, g1)) : Ct l G yX5_dawnsToDebt cX5_dawnsToDebt 4 (some .int) ⟨5, 0, 0, 193⟩ [.ref p, .ref b0, .int b1] g (some (.int r)) g1 :=
  ct_of (L0 := [(0, .ref p), (1, .ref b0), (2, .int b1)]) y_X5_dawnsToDebt rfl (Nat.le_of_ble_eq_true rfl) fun M hl0 X hr hnm => t_x5_dawnsToDebt_b X hl0 hr hnm E
set_option maxHeartbeats 4000000 in
set_option maxRecDepth 100000 in
theorem t_x8_dawnsUntilDebt_b {l : Launch} {G : GG} {M : MC} (X : CX M G cX8_dawnsUntilDebt 2 RX8 ⟨8, 1, 6, 221⟩) (hl0 : M.2.1 = l) (hr : (mM M).sig.returnType = (some .int)) (hnm : (mM M).name = yX8_dawnsUntilDebt.name) (hnt : ∀ x ∈ (mC M).exceptionTable.toList, False) (hst : l.stackTraces = false) {p : Nat} {b0 : Int32} {g : AH} {o : (Int32 ⊕ String)} {g1 : AH} (E : x8_dawnsUntilDebt p b0 g = some (o, g1)) : WW M G 2 (RX M G (ovI o) g1 1 6) 0 0 g 0 [(0, .ref p), (1, .int b0)] [] := by
  unfold x8_dawnsUntilDebt at E
  refine r_aload_n X 0 dX8_dawnsUntilDebt_0 rfl rfl ?_
  refine r_iload_n X 1 dX8_dawnsUntilDebt_1 rfl rfl ?_
  obtain ⟨u4, e5, E⟩ := gb_some E
  obtain ⟨r1, g2, e3, E⟩ := cb_some E
  rcases r1 with v6 | w7
  · rw [Sum.elim_inl] at E
    refine r_callVX X hl0 (ci := 8) dX8_dawnsUntilDebt_2 y_X8_demandHiker m_X8_181 rfl rfl e5 (t_x8_demandHiker (l := l) hst (G := G) e3) rfl rfl (Nat.le_of_ble_eq_true rfl) (by decide) ?_
    refine r_aload_n X 0 dX8_dawnsUntilDebt_5 rfl rfl ?_
    obtain ⟨x8, e9, E⟩ := gb_some E
    refine r_getR X dX8_dawnsUntilDebt_6 f_X8_22 e9 ?_
    refine r_aload_n X 0 dX8_dawnsUntilDebt_9 rfl rfl ?_
    obtain ⟨x10, e11, E⟩ := gb_some E
    refine r_getR X dX8_dawnsUntilDebt_10 f_X8_10 e11 ?_
    refine r_iload_n X 1 dX8_dawnsUntilDebt_13 rfl rfl ?_
    obtain ⟨u15, e16, E⟩ := gb_some E
    obtain ⟨r12, g13, e14, E⟩ := cb_some E
    refine r_callV0 X hl0 (ci := 5) dX8_dawnsUntilDebt_14 y_X5_dawnsToDebt m_X8_325 rfl rfl e16 (t_x5_dawnsToDebt (l := l) (G := G) e14) rfl rfl (Nat.le_of_ble_eq_true rfl) (by decide) ?_
    cases E
    exact r_ret (r_iret X hr dX8_dawnsUntilDebt_17 (by decide) (by decide))
  · rw [Sum.elim_inr] at E
    cases E
    exact r_thrV X hl0 hnt (ci := 8) dX8_dawnsUntilDebt_2 y_X8_demandHiker m_X8_181 rfl rfl e5 (t_x8_demandHiker (l := l) hst (G := G) e3) rfl rfl (Nat.le_of_ble_eq_true rfl) (by decide) (by decide) (by decide)
theorem t_x8_dawnsUntilDebt {l : Launch} (hst : l.stackTraces = false) {G : GG} {p : Nat} {b0 : Int32} {g : AH} {o : (Int32 ⊕ String)} {g1 : AH} (E : x8_dawnsUntilDebt p b0 g = some (o, g1)) : CtX l G yX8_dawnsUntilDebt cX8_dawnsUntilDebt 2 (some .int) ⟨8, 1, 6, 221⟩ [.ref p, .int b0] g (ovI o) g1 :=
  ctX_of (L0 := [(0, .ref p), (1, .int b0)]) y_X8_dawnsUntilDebt rfl (Nat.le_of_ble_eq_true rfl) fun M hl0 X hr hnm hnt => t_x8_dawnsUntilDebt_b X hl0 hr hnm hnt hst E
set_option maxHeartbeats 4000000 in
set_option maxRecDepth 100000 in
theorem t_x5_hoursToNoLogs_l10 {l : Launch} {G : GG} {M : MC} (X : CX M G cX5_hoursToNoLogs 3 RX5 ⟨5, 0, 0, 193⟩) (hl0 : M.2.1 = l) (hr : (mM M).sig.returnType = (some .int)) (hnm : (mM M).name = yX5_hoursToNoLogs.name) {Q : State → Prop} {kc ks : Nat} {s9 : ((Int32) ⊕ ((Unit) ⊕ Int32))} {g1 : AH} {a0 : Nat} {s0 : Int32} (hc : ∀ s1, s9 = .inl s1 → WW M G 3 Q kc ks g1 10 [(0, .ref a0), (2, .int s1)] []) (hx : ∀ t, s9 = .inr t → Sum.elim (fun t1 => WW M G 3 Q kc ks g1 42 [] []) (fun t2 => ∃ mc ms : Nat, kc ≤ mc ∧ ks ≤ ms ∧ Q = RQ M G (some (.int t2)) g1 mc ms) t) {g : AH} (E : x5_hoursToNoLogs_l10 a0 s0 g = some (s9, g1)) : WW M G 3 Q kc ks g 10 [(0, .ref a0), (2, .int s0)] [] := by
  unfold x5_hoursToNoLogs_l10 at E
  refine r_iload_n X 2 dX5_hoursToNoLogs_10 rfl rfl ?_
  refine r_bipush X (v := 96) dX5_hoursToNoLogs_11 (by decide) ?_
  refine r_icmp_gt X 42 dX5_hoursToNoLogs_13 (by decide) (fun c1 => ?_) (fun c1 => ?_)
  · rw [if_pos c1] at E
    cases E
    exact r_pick (by rfl : lpick [(0, .ref a0), (2, .int s0)] [] = _) (hx _ rfl)
  · rw [if_neg c1] at E
    refine r_aload_n X 0 dX5_hoursToNoLogs_16 rfl rfl ?_
    obtain ⟨x2, e3, E⟩ := gb_some E
    refine r_getR X dX5_hoursToNoLogs_17 f_X5_12 e3 ?_
    obtain ⟨x4, e5, E⟩ := gb_some E
    refine r_getI X dX5_hoursToNoLogs_20 f_X5_92 e5 ?_
    refine r_if_ne X 28 dX5_hoursToNoLogs_23 (by decide) (fun c6 => ?_) (fun c6 => ?_)
    · rw [if_neg c6] at E
      refine r_aload_n X 0 dX5_hoursToNoLogs_28 rfl rfl ?_
      obtain ⟨x7, e8, E⟩ := gb_some E
      refine r_getR X dX5_hoursToNoLogs_29 f_X5_12 e8 ?_
      refine r_iconst X (v := 1) dX5_hoursToNoLogs_32 (by decide) ?_
      obtain ⟨u12, e13, E⟩ := gb_some E
      obtain ⟨r9, g10, e11, E⟩ := cb_some E
      refine r_callV0 X hl0 (ci := 3) dX5_hoursToNoLogs_33 y_X3_passTimeUnwatched m_X5_62 rfl rfl e13 (t_x3_passTimeUnwatched (l := l) (G := G) e11) rfl rfl (Nat.le_of_ble_eq_true rfl) (by decide) ?_
      refine r_iinc X (v := (s0 + 1)) (L1 := [(2, .int (s0 + 1)), (0, .ref a0)]) dX5_hoursToNoLogs_36 rfl rfl (by decide) rfl ?_
      refine r_goto X 10 dX5_hoursToNoLogs_39 (by decide) ?_
      cases E
      exact r_pick (by rfl : lpick [(2, .int (s0 + 1)), (0, .ref a0)] [1, 0] = _) (hc _ rfl)
    · rw [if_pos c6] at E
      refine r_iload_n X 2 dX5_hoursToNoLogs_26 rfl rfl ?_
      cases E
      obtain ⟨mc9, ms9, h91, h92, rfl⟩ := hx _ rfl
      exact r_iret X hr dX5_hoursToNoLogs_27 h91 h92
set_option maxHeartbeats 4000000 in
theorem t_x5_hoursToNoLogs_l10_r {l : Launch} {G : GG} {M : MC} (X : CX M G cX5_hoursToNoLogs 3 RX5 ⟨5, 0, 0, 193⟩) (hl0 : M.2.1 = l) (hr : (mM M).sig.returnType = (some .int)) (hnm : (mM M).name = yX5_hoursToNoLogs.name) {Q : State → Prop} {kc ks : Nat} {a0 : Nat} : ∀ (n : Nat) (s0 : Int32) (g : AH) (t : ((Unit) ⊕ Int32)) (g1 : AH), loopX (x5_hoursToNoLogs_l10 a0) n s0 g = some (t, g1) → Sum.elim (fun t1 => WW M G 3 Q kc ks g1 42 [] []) (fun t2 => ∃ mc ms : Nat, kc ≤ mc ∧ ks ≤ ms ∧ Q = RQ M G (some (.int t2)) g1 mc ms) t → WW M G 3 Q kc ks g 10 [(0, .ref a0), (2, .int s0)] [] :=
  loop_cps (K := fun t g1 => Sum.elim (fun t1 => WW M G 3 Q kc ks g1 42 [] []) (fun t2 => ∃ mc ms : Nat, kc ≤ mc ∧ ks ≤ ms ∧ Q = RQ M G (some (.int t2)) g1 mc ms) t) (fun _ s0 g => WW M G 3 Q kc ks g 10 [(0, .ref a0), (2, .int s0)] []) (fun n s0 g st g1 E hc hx => t_x5_hoursToNoLogs_l10 X hl0 hr hnm hc hx E)
set_option maxHeartbeats 4000000 in
set_option maxRecDepth 100000 in
theorem t_x5_hoursToNoLogs_b {l : Launch} {G : GG} {M : MC} (X : CX M G cX5_hoursToNoLogs 3 RX5 ⟨5, 0, 0, 193⟩) (hl0 : M.2.1 = l) (hr : (mM M).sig.returnType = (some .int)) (hnm : (mM M).name = yX5_hoursToNoLogs.name) {p : Nat} {b0 : Nat} {g : AH} {r : Int32} {g1 : AH} (E : x5_hoursToNoLogs p b0 g = some (r, g1)) : WW M G 3 (RQ M G (some (.int r)) g1 0 0) 0 0 g 0 [(0, .ref p), (1, .ref b0)] [] := by
  unfold x5_hoursToNoLogs at E
  refine r_aload_n X 0 dX5_hoursToNoLogs_0 rfl rfl ?_
  obtain ⟨x1, e2, E⟩ := gb_some E
  refine r_getR X dX5_hoursToNoLogs_1 f_X5_12 e2 ?_
  refine r_aload_n X 1 dX5_hoursToNoLogs_4 rfl rfl ?_
  obtain ⟨u6, e7, E⟩ := gb_some E
  obtain ⟨r3, g4, e5, E⟩ := cb_some E
  refine r_callV0 X hl0 (ci := 3) dX5_hoursToNoLogs_5 y_X3_copyFrom m_X5_18 rfl rfl e7 (t_x3_copyFrom (l := l) (G := G) e5) rfl rfl (Nat.le_of_ble_eq_true rfl) (by decide) ?_
  refine r_iconst X (v := 0) dX5_hoursToNoLogs_8 (by decide) ?_
  refine r_istore_n X 2 (L1 := [(2, .int 0), (0, .ref p), (1, .ref b0)]) dX5_hoursToNoLogs_9 rfl (by decide) rfl ?_
  obtain ⟨t8, g9, e10, E⟩ := cb_some E
  rcases t8 with t11 | t12
  · rw [Sum.elim_inl] at E
    refine r_pick (by rfl : lpick [(2, .int 0), (0, .ref p), (1, .ref b0)] [1, 0] = _) (t_x5_hoursToNoLogs_l10_r X hl0 hr hnm _ _ _ _ _ e10 ?_)
    refine r_iconst X (v := (-1)) dX5_hoursToNoLogs_42 (by decide) ?_
    cases E
    exact r_iret X hr dX5_hoursToNoLogs_43 (by decide) (by decide)
  · rw [Sum.elim_inr] at E
    cases E
    exact r_pick (by rfl : lpick [(2, .int 0), (0, .ref p), (1, .ref b0)] [1, 0] = _) (t_x5_hoursToNoLogs_l10_r X hl0 hr hnm _ _ _ _ _ e10 ⟨_, _, by decide, by decide, rfl⟩)
theorem t_x5_hoursToNoLogs {l : Launch} {G : GG} {p : Nat} {b0 : Nat} {g : AH} {r : Int32} {g1 : AH} (E : x5_hoursToNoLogs p b0 g = some (r, g1)) : Ct l G yX5_hoursToNoLogs cX5_hoursToNoLogs 3 (some .int) ⟨5, 0, 0, 193⟩ [.ref p, .ref b0] g (some (.int r)) g1 :=
  ct_of (L0 := [(0, .ref p), (1, .ref b0)]) y_X5_hoursToNoLogs rfl (Nat.le_of_ble_eq_true rfl) fun M hl0 X hr hnm => t_x5_hoursToNoLogs_b X hl0 hr hnm E
set_option maxHeartbeats 4000000 in
set_option maxRecDepth 100000 in
theorem t_x8_hoursUntilNoLogs_b {l : Launch} {G : GG} {M : MC} (X : CX M G cX8_hoursUntilNoLogs 1 RX8 ⟨6, 0, 0, 215⟩) (hl0 : M.2.1 = l) (hr : (mM M).sig.returnType = (some .int)) (hnm : (mM M).name = yX8_hoursUntilNoLogs.name) {p : Nat} {g : AH} {r : Int32} {g1 : AH} (E : x8_hoursUntilNoLogs p g = some (r, g1)) : WW M G 1 (RQ M G (some (.int r)) g1 0 0) 0 0 g 0 [(0, .ref p)] [] := by
  unfold x8_hoursUntilNoLogs at E
  refine r_aload_n X 0 dX8_hoursUntilNoLogs_0 rfl rfl ?_
  obtain ⟨x1, e2, E⟩ := gb_some E
  refine r_getR X dX8_hoursUntilNoLogs_1 f_X8_22 e2 ?_
  refine r_aload_n X 0 dX8_hoursUntilNoLogs_4 rfl rfl ?_
  obtain ⟨x3, e4, E⟩ := gb_some E
  refine r_getR X dX8_hoursUntilNoLogs_5 f_X8_10 e4 ?_
  obtain ⟨u8, e9, E⟩ := gb_some E
  obtain ⟨r5, g6, e7, E⟩ := cb_some E
  refine r_callV0 X hl0 (ci := 5) dX8_hoursUntilNoLogs_8 y_X5_hoursToNoLogs m_X8_328 rfl rfl e9 (t_x5_hoursToNoLogs (l := l) (G := G) e7) rfl rfl (Nat.le_of_ble_eq_true rfl) (by decide) ?_
  cases E
  exact r_iret X hr dX8_hoursUntilNoLogs_11 (by decide) (by decide)
theorem t_x8_hoursUntilNoLogs {l : Launch} {G : GG} {p : Nat} {g : AH} {r : Int32} {g1 : AH} (E : x8_hoursUntilNoLogs p g = some (r, g1)) : Ct l G yX8_hoursUntilNoLogs cX8_hoursUntilNoLogs 1 (some .int) ⟨6, 0, 0, 215⟩ [.ref p] g (some (.int r)) g1 :=
  ct_of (L0 := [(0, .ref p)]) y_X8_hoursUntilNoLogs rfl (Nat.le_of_ble_eq_true rfl) fun M hl0 X hr hnm => t_x8_hoursUntilNoLogs_b X hl0 hr hnm E
set_option maxHeartbeats 4000000 in
set_option maxRecDepth 100000 in
theorem t_x5_hoursToDawnOf_b {l : Launch} {G : GG} {M : MC} (X : CX M G cX5_hoursToDawnOf 4 RX5 ⟨5, 0, 0, 193⟩) (hl0 : M.2.1 = l) (hr : (mM M).sig.returnType = (some .int)) (hnm : (mM M).name = yX5_hoursToDawnOf.name) {p : Nat} {b0 : Int32} {b1 : Nat} {b2 : Int32} {g : AH} {r : Int32} {g1 : AH} (E : x5_hoursToDawnOf p b0 b1 b2 g = some (r, g1)) : WW M G 4 (RQ M G (some (.int r)) g1 0 0) 0 0 g 0 [(0, .ref p), (1, .int b0), (2, .ref b1), (3, .int b2)] [] := by
  unfold x5_hoursToDawnOf at E
  refine r_aload_n X 0 dX5_hoursToDawnOf_0 rfl rfl ?_
  obtain ⟨x1, e2, E⟩ := gb_some E
  refine r_getR X dX5_hoursToDawnOf_1 f_X5_12 e2 ?_
  refine r_aload_n X 2 dX5_hoursToDawnOf_4 rfl rfl ?_
  obtain ⟨u6, e7, E⟩ := gb_some E
  obtain ⟨r3, g4, e5, E⟩ := cb_some E
  refine r_callV0 X hl0 (ci := 3) dX5_hoursToDawnOf_5 y_X3_copyFrom m_X5_18 rfl rfl e7 (t_x3_copyFrom (l := l) (G := G) e5) rfl rfl (Nat.le_of_ble_eq_true rfl) (by decide) ?_
  refine r_aload_n X 0 dX5_hoursToDawnOf_8 rfl rfl ?_
  obtain ⟨x8, e9, E⟩ := gb_some E
  refine r_getR X dX5_hoursToDawnOf_9 f_X5_12 e9 ?_
  refine r_iload_n X 3 dX5_hoursToDawnOf_12 rfl rfl ?_
  obtain ⟨g10, e11, E⟩ := gb_some E
  refine r_put X dX5_hoursToDawnOf_13 f_X5_99 rfl rfl e11 ?_
  refine r_aload_n X 0 dX5_hoursToDawnOf_16 rfl rfl ?_
  obtain ⟨x12, e13, E⟩ := gb_some E
  refine r_getR X dX5_hoursToDawnOf_17 f_X5_12 e13 ?_
  refine r_aload_n X 2 dX5_hoursToDawnOf_20 rfl rfl ?_
  obtain ⟨u17, e18, E⟩ := gb_some E
  obtain ⟨r14, g15, e16, E⟩ := cb_some E
  refine r_callV0 X hl0 (ci := 3) dX5_hoursToDawnOf_21 y_X3_hoursToDawn m_X5_70 rfl rfl e18 (t_x3_hoursToDawn (l := l) (G := G) e16) rfl rfl (Nat.le_of_ble_eq_true rfl) (by decide) ?_
  obtain ⟨u22, e23, E⟩ := gb_some E
  obtain ⟨r19, g20, e21, E⟩ := cb_some E
  refine r_callV0 X hl0 (ci := 3) dX5_hoursToDawnOf_24 y_X3_passTime m_X5_73 rfl rfl e23 (t_x3_passTime (l := l) (G := G) e21) rfl rfl (Nat.le_of_ble_eq_true rfl) (by decide) ?_
  refine r_pop X dX5_hoursToDawnOf_27 rfl ?_
  refine r_aload_n X 0 dX5_hoursToDawnOf_28 rfl rfl ?_
  obtain ⟨x24, e25, E⟩ := gb_some E
  refine r_getR X dX5_hoursToDawnOf_29 f_X5_12 e25 ?_
  refine r_iload_n X 1 dX5_hoursToDawnOf_32 rfl rfl ?_
  obtain ⟨u29, e30, E⟩ := gb_some E
  obtain ⟨r26, g27, e28, E⟩ := cb_some E
  refine r_callV0 X hl0 (ci := 3) dX5_hoursToDawnOf_33 y_X3_sumOfHours m_X5_102 rfl rfl e30 (t_x3_sumOfHours (l := l) (G := G) e28) rfl rfl (Nat.le_of_ble_eq_true rfl) (by decide) ?_
  refine r_aload_n X 2 dX5_hoursToDawnOf_36 rfl rfl ?_
  refine r_iload_n X 1 dX5_hoursToDawnOf_37 rfl rfl ?_
  obtain ⟨u34, e35, E⟩ := gb_some E
  obtain ⟨r31, g32, e33, E⟩ := cb_some E
  refine r_callV0 X hl0 (ci := 3) dX5_hoursToDawnOf_38 y_X3_sumOfHours m_X5_102 rfl rfl e35 (t_x3_sumOfHours (l := l) (G := G) e33) rfl rfl (Nat.le_of_ble_eq_true rfl) (by decide) ?_
  refine r_isub X dX5_hoursToDawnOf_41 ?_
  cases E
  exact r_iret X hr dX5_hoursToDawnOf_42 (by decide) (by decide)
theorem t_x5_hoursToDawnOf {l : Launch} {G : GG} {p : Nat} {b0 : Int32} {b1 : Nat} {b2 : Int32} {g : AH} {r : Int32} {g1 : AH} (E : x5_hoursToDawnOf p b0 b1 b2 g = some (r, g1)) : Ct l G yX5_hoursToDawnOf cX5_hoursToDawnOf 4 (some .int) ⟨5, 0, 0, 193⟩ [.ref p, .int b0, .ref b1, .int b2] g (some (.int r)) g1 :=
  ct_of (L0 := [(0, .ref p), (1, .int b0), (2, .ref b1), (3, .int b2)]) y_X5_hoursToDawnOf rfl (Nat.le_of_ble_eq_true rfl) fun M hl0 X hr hnm => t_x5_hoursToDawnOf_b X hl0 hr hnm E
set_option maxHeartbeats 4000000 in
set_option maxRecDepth 100000 in
theorem t_x5_rateWithoutShivers_l2 {l : Launch} {G : GG} {M : MC} (X : CX M G cX5_rateWithoutShivers 3 RX5 ⟨6, 0, 0, 216⟩) (hl0 : M.2.1 = l) (hr : (mM M).sig.returnType = (some .int)) (hnm : (mM M).name = yX5_rateWithoutShivers.name) {Q : State → Prop} {kc ks : Nat} {s9 : ((Int32) ⊕ ((Unit) ⊕ Int32))} {g1 : AH} {a0 : Nat} {a1 : Nat} {s0 : Int32} (hc : ∀ s1, s9 = .inl s1 → WW M G 3 Q kc ks g1 2 [(0, .ref a0), (1, .ref a1), (2, .int s1)] []) (hx : ∀ t, s9 = .inr t → Sum.elim (fun t1 => WW M G 3 Q kc ks g1 25 [] []) (fun t2 => ∃ mc ms : Nat, kc ≤ mc ∧ ks ≤ ms ∧ Q = RQ M G (some (.int t2)) g1 mc ms) t) {g : AH} (E : x5_rateWithoutShivers_l2 a0 a1 s0 g = some (s9, g1)) : WW M G 3 Q kc ks g 2 [(0, .ref a0), (1, .ref a1), (2, .int s0)] [] := by
  unfold x5_rateWithoutShivers_l2 at E
  refine r_iload_n X 2 dX5_rateWithoutShivers_2 rfl rfl ?_
  refine r_iconst X (v := 3) dX5_rateWithoutShivers_3 (by decide) ?_
  refine r_icmp_gt X 25 dX5_rateWithoutShivers_4 (by decide) (fun c1 => ?_) (fun c1 => ?_)
  · rw [if_pos c1] at E
    cases E
    exact r_pick (by rfl : lpick [(0, .ref a0), (1, .ref a1), (2, .int s0)] [] = _) (hx _ rfl)
  · rw [if_neg c1] at E
    refine r_aload_n X 0 dX5_rateWithoutShivers_7 rfl rfl ?_
    refine r_iconst X (v := 0) dX5_rateWithoutShivers_8 (by decide) ?_
    refine r_aload_n X 1 dX5_rateWithoutShivers_9 rfl rfl ?_
    refine r_iload_n X 2 dX5_rateWithoutShivers_10 rfl rfl ?_
    obtain ⟨u5, e6, E⟩ := gb_some E
    obtain ⟨r2, g3, e4, E⟩ := cb_some E
    refine r_callV0 X hl0 (ci := 5) dX5_rateWithoutShivers_11 y_X5_hoursToDawnOf m_X5_95 rfl rfl e6 (t_x5_hoursToDawnOf (l := l) (G := G) e4) rfl rfl (Nat.le_of_ble_eq_true rfl) (by decide) ?_
    refine r_if_ne X 19 dX5_rateWithoutShivers_14 (by decide) (fun c7 => ?_) (fun c7 => ?_)
    · rw [if_neg c7] at E
      refine r_iinc X (v := (s0 + 1)) (L1 := [(2, .int (s0 + 1)), (0, .ref a0), (1, .ref a1)]) dX5_rateWithoutShivers_19 rfl rfl (by decide) rfl ?_
      refine r_goto X 2 dX5_rateWithoutShivers_22 (by decide) ?_
      cases E
      exact r_pick (by rfl : lpick [(2, .int (s0 + 1)), (0, .ref a0), (1, .ref a1)] [1, 2, 0] = _) (hc _ rfl)
    · rw [if_pos c7] at E
      refine r_iload_n X 2 dX5_rateWithoutShivers_17 rfl rfl ?_
      cases E
      obtain ⟨mc9, ms9, h91, h92, rfl⟩ := hx _ rfl
      exact r_iret X hr dX5_rateWithoutShivers_18 h91 h92
set_option maxHeartbeats 4000000 in
theorem t_x5_rateWithoutShivers_l2_r {l : Launch} {G : GG} {M : MC} (X : CX M G cX5_rateWithoutShivers 3 RX5 ⟨6, 0, 0, 216⟩) (hl0 : M.2.1 = l) (hr : (mM M).sig.returnType = (some .int)) (hnm : (mM M).name = yX5_rateWithoutShivers.name) {Q : State → Prop} {kc ks : Nat} {a0 : Nat} {a1 : Nat} : ∀ (n : Nat) (s0 : Int32) (g : AH) (t : ((Unit) ⊕ Int32)) (g1 : AH), loopX (x5_rateWithoutShivers_l2 a0 a1) n s0 g = some (t, g1) → Sum.elim (fun t1 => WW M G 3 Q kc ks g1 25 [] []) (fun t2 => ∃ mc ms : Nat, kc ≤ mc ∧ ks ≤ ms ∧ Q = RQ M G (some (.int t2)) g1 mc ms) t → WW M G 3 Q kc ks g 2 [(0, .ref a0), (1, .ref a1), (2, .int s0)] [] :=
  loop_cps (K := fun t g1 => Sum.elim (fun t1 => WW M G 3 Q kc ks g1 25 [] []) (fun t2 => ∃ mc ms : Nat, kc ≤ mc ∧ ks ≤ ms ∧ Q = RQ M G (some (.int t2)) g1 mc ms) t) (fun _ s0 g => WW M G 3 Q kc ks g 2 [(0, .ref a0), (1, .ref a1), (2, .int s0)] []) (fun n s0 g st g1 E hc hx => t_x5_rateWithoutShivers_l2 X hl0 hr hnm hc hx E)
set_option maxHeartbeats 4000000 in
set_option maxRecDepth 100000 in
theorem t_x5_rateWithoutShivers_b {l : Launch} {G : GG} {M : MC} (X : CX M G cX5_rateWithoutShivers 3 RX5 ⟨6, 0, 0, 216⟩) (hl0 : M.2.1 = l) (hr : (mM M).sig.returnType = (some .int)) (hnm : (mM M).name = yX5_rateWithoutShivers.name) {p : Nat} {b0 : Nat} {g : AH} {r : Int32} {g1 : AH} (E : x5_rateWithoutShivers p b0 g = some (r, g1)) : WW M G 3 (RQ M G (some (.int r)) g1 0 0) 0 0 g 0 [(0, .ref p), (1, .ref b0)] [] := by
  unfold x5_rateWithoutShivers at E
  refine r_iconst X (v := 0) dX5_rateWithoutShivers_0 (by decide) ?_
  refine r_istore_n X 2 (L1 := [(2, .int 0), (0, .ref p), (1, .ref b0)]) dX5_rateWithoutShivers_1 rfl (by decide) rfl ?_
  obtain ⟨t1, g2, e3, E⟩ := cb_some E
  rcases t1 with t4 | t5
  · rw [Sum.elim_inl] at E
    refine r_pick (by rfl : lpick [(2, .int 0), (0, .ref p), (1, .ref b0)] [1, 2, 0] = _) (t_x5_rateWithoutShivers_l2_r X hl0 hr hnm _ _ _ _ _ e3 ?_)
    refine r_iconst X (v := (-1)) dX5_rateWithoutShivers_25 (by decide) ?_
    cases E
    exact r_iret X hr dX5_rateWithoutShivers_26 (by decide) (by decide)
  · rw [Sum.elim_inr] at E
    cases E
    exact r_pick (by rfl : lpick [(2, .int 0), (0, .ref p), (1, .ref b0)] [1, 2, 0] = _) (t_x5_rateWithoutShivers_l2_r X hl0 hr hnm _ _ _ _ _ e3 ⟨_, _, by decide, by decide, rfl⟩)
theorem t_x5_rateWithoutShivers {l : Launch} {G : GG} {p : Nat} {b0 : Nat} {g : AH} {r : Int32} {g1 : AH} (E : x5_rateWithoutShivers p b0 g = some (r, g1)) : Ct l G yX5_rateWithoutShivers cX5_rateWithoutShivers 3 (some .int) ⟨6, 0, 0, 216⟩ [.ref p, .ref b0] g (some (.int r)) g1 :=
  ct_of (L0 := [(0, .ref p), (1, .ref b0)]) y_X5_rateWithoutShivers rfl (Nat.le_of_ble_eq_true rfl) fun M hl0 X hr hnm => t_x5_rateWithoutShivers_b X hl0 hr hnm E
set_option maxHeartbeats 4000000 in
set_option maxRecDepth 100000 in
theorem t_x8_rateNeeded_b {l : Launch} {G : GG} {M : MC} (X : CX M G cX8_rateNeeded 1 RX8 ⟨7, 0, 0, 238⟩) (hl0 : M.2.1 = l) (hr : (mM M).sig.returnType = (some .int)) (hnm : (mM M).name = yX8_rateNeeded.name) {p : Nat} {g : AH} {r : Int32} {g1 : AH} (E : x8_rateNeeded p g = some (r, g1)) : WW M G 1 (RQ M G (some (.int r)) g1 0 0) 0 0 g 0 [(0, .ref p)] [] := by
  unfold x8_rateNeeded at E
  refine r_aload_n X 0 dX8_rateNeeded_0 rfl rfl ?_
  obtain ⟨x1, e2, E⟩ := gb_some E
  refine r_getR X dX8_rateNeeded_1 f_X8_22 e2 ?_
  refine r_aload_n X 0 dX8_rateNeeded_4 rfl rfl ?_
  obtain ⟨x3, e4, E⟩ := gb_some E
  refine r_getR X dX8_rateNeeded_5 f_X8_10 e4 ?_
  obtain ⟨u8, e9, E⟩ := gb_some E
  obtain ⟨r5, g6, e7, E⟩ := cb_some E
  refine r_callV0 X hl0 (ci := 5) dX8_rateNeeded_8 y_X5_rateWithoutShivers m_X8_331 rfl rfl e9 (t_x5_rateWithoutShivers (l := l) (G := G) e7) rfl rfl (Nat.le_of_ble_eq_true rfl) (by decide) ?_
  cases E
  exact r_iret X hr dX8_rateNeeded_11 (by decide) (by decide)
theorem t_x8_rateNeeded {l : Launch} {G : GG} {p : Nat} {g : AH} {r : Int32} {g1 : AH} (E : x8_rateNeeded p g = some (r, g1)) : Ct l G yX8_rateNeeded cX8_rateNeeded 1 (some .int) ⟨7, 0, 0, 238⟩ [.ref p] g (some (.int r)) g1 :=
  ct_of (L0 := [(0, .ref p)]) y_X8_rateNeeded rfl (Nat.le_of_ble_eq_true rfl) fun M hl0 X hr hnm => t_x8_rateNeeded_b X hl0 hr hnm E
set_option maxHeartbeats 4000000 in
set_option maxRecDepth 100000 in
theorem t_x5_rateForMostSleep_j41_13 {l : Launch} {G : GG} {M : MC} (X : CX M G cX5_rateForMostSleep 6 RX5 ⟨6, 0, 0, 216⟩) (hl0 : M.2.1 = l) (hr : (mM M).sig.returnType = (some .int)) (hnm : (mM M).name = yX5_rateForMostSleep.name) {Q : State → Prop} {kc ks : Nat} {s9 : ((Int32 × Int32 × Int32) ⊕ (Int32))} {g1 : AH} {a0 : Nat} {a1 : Nat} {a2 : Int32} {a3 : Int32} {a4 : Int32} (hc : ∀ s1, s9 = .inl s1 → WW M G 6 Q kc ks g1 13 [(0, .ref a0), (1, .ref a1), (2, .int s1.1), (3, .int s1.2.1), (4, .int s1.2.2)] []) (hx : ∀ t, s9 = .inr t → WW M G 6 Q kc ks g1 47 [(2, .int t)] []) {g : AH} (E : x5_rateForMostSleep_j41_13 a0 a1 a2 a3 a4 g = some (s9, g1)) : WW M G 6 Q kc ks g 41 [(0, .ref a0), (1, .ref a1), (2, .int a2), (3, .int a3), (4, .int a4)] [] := by
  unfold x5_rateForMostSleep_j41_13 at E
  refine r_iinc X (v := (a4 + 1)) (L1 := [(4, .int (a4 + 1)), (0, .ref a0), (1, .ref a1), (2, .int a2), (3, .int a3)]) dX5_rateForMostSleep_41 rfl rfl (by decide) rfl ?_
  refine r_goto X 13 dX5_rateForMostSleep_44 (by decide) ?_
  cases E
  exact r_pick (by rfl : lpick [(4, .int (a4 + 1)), (0, .ref a0), (1, .ref a1), (2, .int a2), (3, .int a3)] [1, 2, 3, 4, 0] = _) (hc _ rfl)
set_option maxHeartbeats 4000000 in
set_option maxRecDepth 100000 in
theorem t_x5_rateForMostSleep_l13 {l : Launch} {G : GG} {M : MC} (X : CX M G cX5_rateForMostSleep 6 RX5 ⟨6, 0, 0, 216⟩) (hl0 : M.2.1 = l) (hr : (mM M).sig.returnType = (some .int)) (hnm : (mM M).name = yX5_rateForMostSleep.name) {Q : State → Prop} {kc ks : Nat} {s9 : ((Int32 × Int32 × Int32) ⊕ (Int32))} {g1 : AH} {a0 : Nat} {a1 : Nat} {s0 : Int32 × Int32 × Int32} (hc : ∀ s1, s9 = .inl s1 → WW M G 6 Q kc ks g1 13 [(0, .ref a0), (1, .ref a1), (2, .int s1.1), (3, .int s1.2.1), (4, .int s1.2.2)] []) (hx : ∀ t, s9 = .inr t → WW M G 6 Q kc ks g1 47 [(2, .int t)] []) {g : AH} (E : x5_rateForMostSleep_l13 a0 a1 s0 g = some (s9, g1)) : WW M G 6 Q kc ks g 13 [(0, .ref a0), (1, .ref a1), (2, .int s0.1), (3, .int s0.2.1), (4, .int s0.2.2)] [] := by
  unfold x5_rateForMostSleep_l13 at E
  refine r_iload X dX5_rateForMostSleep_13 rfl ?_
  refine r_iconst X (v := 3) dX5_rateForMostSleep_15 (by decide) ?_
  refine r_icmp_gt X 47 dX5_rateForMostSleep_16 (by decide) (fun c1 => ?_) (fun c1 => ?_)
  · rw [if_pos c1] at E
    cases E
    exact r_pick (by rfl : lpick [(0, .ref a0), (1, .ref a1), (2, .int s0.1), (3, .int s0.2.1), (4, .int s0.2.2)] [2] = _) (hx _ rfl)
  · rw [if_neg c1] at E
    refine r_aload_n X 0 dX5_rateForMostSleep_19 rfl rfl ?_
    refine r_iconst X (v := 2) dX5_rateForMostSleep_20 (by decide) ?_
    refine r_aload_n X 1 dX5_rateForMostSleep_21 rfl rfl ?_
    refine r_iload X dX5_rateForMostSleep_22 rfl ?_
    obtain ⟨u5, e6, E⟩ := gb_some E
    obtain ⟨r2, g3, e4, E⟩ := cb_some E
    refine r_callV0 X hl0 (ci := 5) dX5_rateForMostSleep_24 y_X5_hoursToDawnOf m_X5_95 rfl rfl e6 (t_x5_hoursToDawnOf (l := l) (G := G) e4) rfl rfl (Nat.le_of_ble_eq_true rfl) (by decide) ?_
    refine r_istore X (L1 := [(5, .int r2), (0, .ref a0), (1, .ref a1), (2, .int s0.1), (3, .int s0.2.1), (4, .int s0.2.2)]) dX5_rateForMostSleep_27 (by decide) rfl ?_
    refine r_iload X dX5_rateForMostSleep_29 rfl ?_
    refine r_iload_n X 3 dX5_rateForMostSleep_31 rfl rfl ?_
    refine r_icmp_le X 41 dX5_rateForMostSleep_32 (by decide) (fun c7 => ?_) (fun c7 => ?_)
    · rw [if_pos c7] at E
      exact r_pick (by rfl : lpick [(5, .int r2), (0, .ref a0), (1, .ref a1), (2, .int s0.1), (3, .int s0.2.1), (4, .int s0.2.2)] [1, 2, 3, 4, 5] = _) (t_x5_rateForMostSleep_j41_13 X hl0 hr hnm hc hx E)
    · rw [if_neg c7] at E
      refine r_iload X dX5_rateForMostSleep_35 rfl ?_
      refine r_istore_n X 3 (L1 := [(3, .int r2), (5, .int r2), (0, .ref a0), (1, .ref a1), (2, .int s0.1), (4, .int s0.2.2)]) dX5_rateForMostSleep_37 rfl (by decide) rfl ?_
      refine r_iload X dX5_rateForMostSleep_38 rfl ?_
      refine r_istore_n X 2 (L1 := [(2, .int s0.2.2), (3, .int r2), (5, .int r2), (0, .ref a0), (1, .ref a1), (4, .int s0.2.2)]) dX5_rateForMostSleep_40 rfl (by decide) rfl ?_
      exact r_pick (by rfl : lpick [(2, .int s0.2.2), (3, .int r2), (5, .int r2), (0, .ref a0), (1, .ref a1), (4, .int s0.2.2)] [3, 4, 0, 1, 5] = _) (t_x5_rateForMostSleep_j41_13 X hl0 hr hnm hc hx E)
set_option maxHeartbeats 4000000 in
theorem t_x5_rateForMostSleep_l13_r {l : Launch} {G : GG} {M : MC} (X : CX M G cX5_rateForMostSleep 6 RX5 ⟨6, 0, 0, 216⟩) (hl0 : M.2.1 = l) (hr : (mM M).sig.returnType = (some .int)) (hnm : (mM M).name = yX5_rateForMostSleep.name) {Q : State → Prop} {kc ks : Nat} {a0 : Nat} {a1 : Nat} : ∀ (n : Nat) (s0 : Int32 × Int32 × Int32) (g : AH) (t : (Int32)) (g1 : AH), loopX (x5_rateForMostSleep_l13 a0 a1) n s0 g = some (t, g1) → WW M G 6 Q kc ks g1 47 [(2, .int t)] [] → WW M G 6 Q kc ks g 13 [(0, .ref a0), (1, .ref a1), (2, .int s0.1), (3, .int s0.2.1), (4, .int s0.2.2)] [] :=
  loop_cps (K := fun t g1 => WW M G 6 Q kc ks g1 47 [(2, .int t)] []) (fun _ s0 g => WW M G 6 Q kc ks g 13 [(0, .ref a0), (1, .ref a1), (2, .int s0.1), (3, .int s0.2.1), (4, .int s0.2.2)] []) (fun n s0 g st g1 E hc hx => t_x5_rateForMostSleep_l13 X hl0 hr hnm hc hx E)
set_option maxHeartbeats 4000000 in
set_option maxRecDepth 100000 in
theorem t_x5_rateForMostSleep_b {l : Launch} {G : GG} {M : MC} (X : CX M G cX5_rateForMostSleep 6 RX5 ⟨6, 0, 0, 216⟩) (hl0 : M.2.1 = l) (hr : (mM M).sig.returnType = (some .int)) (hnm : (mM M).name = yX5_rateForMostSleep.name) {p : Nat} {b0 : Nat} {g : AH} {r : Int32} {g1 : AH} (E : x5_rateForMostSleep p b0 g = some (r, g1)) : WW M G 6 (RQ M G (some (.int r)) g1 0 0) 0 0 g 0 [(0, .ref p), (1, .ref b0)] [] := by
  unfold x5_rateForMostSleep at E
  refine r_iconst X (v := 0) dX5_rateForMostSleep_0 (by decide) ?_
  refine r_istore_n X 2 (L1 := [(2, .int 0), (0, .ref p), (1, .ref b0)]) dX5_rateForMostSleep_1 rfl (by decide) rfl ?_
  refine r_aload_n X 0 dX5_rateForMostSleep_2 rfl rfl ?_
  refine r_iconst X (v := 2) dX5_rateForMostSleep_3 (by decide) ?_
  refine r_aload_n X 1 dX5_rateForMostSleep_4 rfl rfl ?_
  refine r_iconst X (v := 0) dX5_rateForMostSleep_5 (by decide) ?_
  obtain ⟨u4, e5, E⟩ := gb_some E
  obtain ⟨r1, g2, e3, E⟩ := cb_some E
  refine r_callV0 X hl0 (ci := 5) dX5_rateForMostSleep_6 y_X5_hoursToDawnOf m_X5_95 rfl rfl e5 (t_x5_hoursToDawnOf (l := l) (G := G) e3) rfl rfl (Nat.le_of_ble_eq_true rfl) (by decide) ?_
  refine r_istore_n X 3 (L1 := [(3, .int r1), (2, .int 0), (0, .ref p), (1, .ref b0)]) dX5_rateForMostSleep_9 rfl (by decide) rfl ?_
  refine r_iconst X (v := 1) dX5_rateForMostSleep_10 (by decide) ?_
  refine r_istore X (L1 := [(4, .int 1), (3, .int r1), (2, .int 0), (0, .ref p), (1, .ref b0)]) dX5_rateForMostSleep_11 (by decide) rfl ?_
  obtain ⟨t6, g7, e8, E⟩ := cb_some E
  refine r_pick (by rfl : lpick [(4, .int 1), (3, .int r1), (2, .int 0), (0, .ref p), (1, .ref b0)] [3, 4, 2, 1, 0] = _) (t_x5_rateForMostSleep_l13_r X hl0 hr hnm _ _ _ _ _ e8 ?_)
  refine r_iload_n X 2 dX5_rateForMostSleep_47 rfl rfl ?_
  cases E
  exact r_iret X hr dX5_rateForMostSleep_48 (by decide) (by decide)
theorem t_x5_rateForMostSleep {l : Launch} {G : GG} {p : Nat} {b0 : Nat} {g : AH} {r : Int32} {g1 : AH} (E : x5_rateForMostSleep p b0 g = some (r, g1)) : Ct l G yX5_rateForMostSleep cX5_rateForMostSleep 6 (some .int) ⟨6, 0, 0, 216⟩ [.ref p, .ref b0] g (some (.int r)) g1 :=
  ct_of (L0 := [(0, .ref p), (1, .ref b0)]) y_X5_rateForMostSleep rfl (Nat.le_of_ble_eq_true rfl) fun M hl0 X hr hnm => t_x5_rateForMostSleep_b X hl0 hr hnm E
set_option maxHeartbeats 4000000 in
set_option maxRecDepth 100000 in
theorem t_x8_bestRate_b {l : Launch} {G : GG} {M : MC} (X : CX M G cX8_bestRate 1 RX8 ⟨7, 0, 0, 241⟩) (hl0 : M.2.1 = l) (hr : (mM M).sig.returnType = (some .int)) (hnm : (mM M).name = yX8_bestRate.name) {p : Nat} {g : AH} {r : Int32} {g1 : AH} (E : x8_bestRate p g = some (r, g1)) : WW M G 1 (RQ M G (some (.int r)) g1 0 0) 0 0 g 0 [(0, .ref p)] [] := by
  unfold x8_bestRate at E
  refine r_aload_n X 0 dX8_bestRate_0 rfl rfl ?_
  obtain ⟨x1, e2, E⟩ := gb_some E
  refine r_getR X dX8_bestRate_1 f_X8_22 e2 ?_
  refine r_aload_n X 0 dX8_bestRate_4 rfl rfl ?_
  obtain ⟨x3, e4, E⟩ := gb_some E
  refine r_getR X dX8_bestRate_5 f_X8_10 e4 ?_
  obtain ⟨u8, e9, E⟩ := gb_some E
  obtain ⟨r5, g6, e7, E⟩ := cb_some E
  refine r_callV0 X hl0 (ci := 5) dX8_bestRate_8 y_X5_rateForMostSleep m_X8_334 rfl rfl e9 (t_x5_rateForMostSleep (l := l) (G := G) e7) rfl rfl (Nat.le_of_ble_eq_true rfl) (by decide) ?_
  cases E
  exact r_iret X hr dX8_bestRate_11 (by decide) (by decide)
theorem t_x8_bestRate {l : Launch} {G : GG} {p : Nat} {g : AH} {r : Int32} {g1 : AH} (E : x8_bestRate p g = some (r, g1)) : Ct l G yX8_bestRate cX8_bestRate 1 (some .int) ⟨7, 0, 0, 241⟩ [.ref p] g (some (.int r)) g1 :=
  ct_of (L0 := [(0, .ref p)]) y_X8_bestRate rfl (Nat.le_of_ble_eq_true rfl) fun M hl0 X hr hnm => t_x8_bestRate_b X hl0 hr hnm E
set_option maxHeartbeats 4000000 in
set_option maxRecDepth 100000 in
theorem t_x8_refuse_b {l : Launch} {G : GG} {M : MC} (X : CX M G cX8_refuse 1 RX8 ⟨7, 3, 18, 200⟩) (hl0 : M.2.1 = l) (hr : (mM M).sig.returnType = none) (hnm : (mM M).name = yX8_refuse.name) (hnt : ∀ x ∈ (mC M).exceptionTable.toList, False) (hst : l.stackTraces = false) {b0 : Int32} {g : AH} {o : (Unit ⊕ String)} {g1 : AH} (E : x8_refuse b0 g = some (o, g1)) : WW M G 1 (RX M G (ovU o) g1 3 18) 0 0 g 0 [(0, .int b0)] [] := by
  unfold x8_refuse at E
  refine r_iload_n X 0 dX8_refuse_0 rfl rfl ?_
  refine r_iconst X (v := 1) dX8_refuse_1 (by decide) ?_
  refine r_icmp_ne X 16 dX8_refuse_2 (by decide) (fun c1 => ?_) (fun c1 => ?_)
  · rw [if_neg c1] at E
    refine r_iload_n X 0 dX8_refuse_16 rfl rfl ?_
    refine r_iconst X (v := 2) dX8_refuse_17 (by decide) ?_
    refine r_icmp_ne X 32 dX8_refuse_18 (by decide) (fun c2 => ?_) (fun c2 => ?_)
    · rw [if_neg c2] at E
      refine r_iload_n X 0 dX8_refuse_32 rfl rfl ?_
      refine r_iconst X (v := 3) dX8_refuse_33 (by decide) ?_
      refine r_icmp_ne X 48 dX8_refuse_34 (by decide) (fun c3 => ?_) (fun c3 => ?_)
      · rw [if_neg c3] at E
        cases E
        exact r_ret (r_vret X hr dX8_refuse_48 (by decide) (by decide))
      · rw [if_pos c3] at E
        cases E
        exact r_throwW X hl0 hst hnt th_X8_94 k_X8_90 (List.mem_of_getElem? (i := 11) rfl) dX8_refuse_37 dX8_refuse_40 dX8_refuse_41 dX8_refuse_44 dX8_refuse_47 ⟨by decide, Nat.le_of_ble_eq_true rfl⟩ (by decide) (by decide)
    · rw [if_pos c2] at E
      cases E
      exact r_throwW X hl0 hst hnt th_X8_108 k_X8_104 (List.mem_of_getElem? (i := 10) rfl) dX8_refuse_21 dX8_refuse_24 dX8_refuse_25 dX8_refuse_28 dX8_refuse_31 ⟨by decide, Nat.le_of_ble_eq_true rfl⟩ (by decide) (by decide)
  · rw [if_pos c1] at E
    cases E
    exact r_throwW X hl0 hst hnt th_X8_195 k_X8_191 (List.mem_of_getElem? (i := 9) rfl) dX8_refuse_5 dX8_refuse_8 dX8_refuse_9 dX8_refuse_12 dX8_refuse_15 ⟨by decide, Nat.le_of_ble_eq_true rfl⟩ (by decide) (by decide)
theorem t_x8_refuse {l : Launch} (hst : l.stackTraces = false) {G : GG} {b0 : Int32} {g : AH} {o : (Unit ⊕ String)} {g1 : AH} (E : x8_refuse b0 g = some (o, g1)) : CtX l G yX8_refuse cX8_refuse 1 none ⟨7, 3, 18, 200⟩ [.int b0] g (ovU o) g1 :=
  ctX_of (L0 := [(0, .int b0)]) y_X8_refuse rfl (Nat.le_of_ble_eq_true rfl) fun M hl0 X hr hnm hnt => t_x8_refuse_b X hl0 hr hnm hnt hst E
set_option maxHeartbeats 4000000 in
set_option maxRecDepth 100000 in
theorem t_x8_act_b {l : Launch} {G : GG} {M : MC} (X : CX M G cX8_act 4 RX8 ⟨8, 3, 18, 220⟩) (hl0 : M.2.1 = l) (hr : (mM M).sig.returnType = (some .int)) (hnm : (mM M).name = yX8_act.name) (hnt : ∀ x ∈ (mC M).exceptionTable.toList, False) (hst : l.stackTraces = false) {p : Nat} {b0 : Int32} {b1 : Int32} {b2 : Int32} {g : AH} {o : (Int32 ⊕ String)} {g1 : AH} (E : x8_act p b0 b1 b2 g = some (o, g1)) : WW M G 4 (RX M G (ovI o) g1 3 18) 0 0 g 0 [(0, .ref p), (1, .int b0), (2, .int b1), (3, .int b2)] [] := by
  unfold x8_act at E
  refine r_aload_n X 0 dX8_act_0 rfl rfl ?_
  obtain ⟨x1, e2, E⟩ := gb_some E
  refine r_getR X dX8_act_1 f_X8_10 e2 ?_
  refine r_iload_n X 1 dX8_act_4 rfl rfl ?_
  refine r_iload_n X 2 dX8_act_5 rfl rfl ?_
  refine r_iload_n X 3 dX8_act_6 rfl rfl ?_
  obtain ⟨u6, e7, E⟩ := gb_some E
  obtain ⟨r3, g4, e5, E⟩ := cb_some E
  refine r_callV0 X hl0 (ci := 3) dX8_act_7 y_X3_faultOf m_X8_136 rfl rfl e7 (t_x3_faultOf (l := l) (G := G) e5) rfl rfl (Nat.le_of_ble_eq_true rfl) (by decide) ?_
  obtain ⟨r8, g9, e10, E⟩ := cb_some E
  rcases r8 with v11 | w12
  · rw [Sum.elim_inl] at E
    refine r_callSX X hl0 dX8_act_10 y_X8_refuse m_X8_342 (t_x8_refuse (l := l) hst (G := G) e10) rfl rfl (Nat.le_of_ble_eq_true rfl) (by decide) ?_
    refine r_aload_n X 0 dX8_act_13 rfl rfl ?_
    obtain ⟨x13, e14, E⟩ := gb_some E
    refine r_getR X dX8_act_14 f_X8_29 e14 ?_
    refine r_aload_n X 0 dX8_act_17 rfl rfl ?_
    obtain ⟨x15, e16, E⟩ := gb_some E
    refine r_getR X dX8_act_18 f_X8_10 e16 ?_
    obtain ⟨u20, e21, E⟩ := gb_some E
    obtain ⟨r17, g18, e19, E⟩ := cb_some E
    refine r_callV0 X hl0 (ci := 2) dX8_act_21 y_X2_keep m_X8_140 rfl rfl e21 (t_x2_keep (l := l) (G := G) e19) rfl rfl (Nat.le_of_ble_eq_true rfl) (by decide) ?_
    refine r_aload_n X 0 dX8_act_24 rfl rfl ?_
    obtain ⟨x22, e23, E⟩ := gb_some E
    refine r_getR X dX8_act_25 f_X8_10 e23 ?_
    refine r_iload_n X 1 dX8_act_28 rfl rfl ?_
    refine r_iload_n X 2 dX8_act_29 rfl rfl ?_
    refine r_iload_n X 3 dX8_act_30 rfl rfl ?_
    obtain ⟨u27, e28, E⟩ := gb_some E
    obtain ⟨r24, g25, e26, E⟩ := cb_some E
    refine r_callV0 X hl0 (ci := 3) dX8_act_31 y_X3_perform m_X8_143 rfl rfl e28 (t_x3_perform (l := l) (G := G) e26) rfl rfl (Nat.le_of_ble_eq_true rfl) (by decide) ?_
    cases E
    exact r_ret (r_iret X hr dX8_act_34 (by decide) (by decide))
  · rw [Sum.elim_inr] at E
    cases E
    exact r_thrS X hl0 hnt dX8_act_10 y_X8_refuse m_X8_342 (t_x8_refuse (l := l) hst (G := G) e10) rfl rfl (Nat.le_of_ble_eq_true rfl) (by decide) (by decide) (by decide)
theorem t_x8_act {l : Launch} (hst : l.stackTraces = false) {G : GG} {p : Nat} {b0 : Int32} {b1 : Int32} {b2 : Int32} {g : AH} {o : (Int32 ⊕ String)} {g1 : AH} (E : x8_act p b0 b1 b2 g = some (o, g1)) : CtX l G yX8_act cX8_act 4 (some .int) ⟨8, 3, 18, 220⟩ [.ref p, .int b0, .int b1, .int b2] g (ovI o) g1 :=
  ctX_of (L0 := [(0, .ref p), (1, .int b0), (2, .int b1), (3, .int b2)]) y_X8_act rfl (Nat.le_of_ble_eq_true rfl) fun M hl0 X hr hnm hnt => t_x8_act_b X hl0 hr hnm hnt hst E
set_option maxHeartbeats 4000000 in
set_option maxRecDepth 100000 in
theorem t_x8_takeBlanket_b {l : Launch} {G : GG} {M : MC} (X : CX M G cX8_takeBlanket 3 RX8 ⟨9, 3, 18, 243⟩) (hl0 : M.2.1 = l) (hr : (mM M).sig.returnType = (some .int)) (hnm : (mM M).name = yX8_takeBlanket.name) (hnt : ∀ x ∈ (mC M).exceptionTable.toList, False) (hst : l.stackTraces = false) {p : Nat} {b0 : Int32} {b1 : Int32} {g : AH} {o : (Int32 ⊕ String)} {g1 : AH} (E : x8_takeBlanket p b0 b1 g = some (o, g1)) : WW M G 3 (RX M G (ovI o) g1 3 18) 0 0 g 0 [(0, .ref p), (1, .int b0), (2, .int b1)] [] := by
  unfold x8_takeBlanket at E
  refine r_aload_n X 0 dX8_takeBlanket_0 rfl rfl ?_
  refine r_iconst X (v := 0) dX8_takeBlanket_1 (by decide) ?_
  refine r_iload_n X 1 dX8_takeBlanket_2 rfl rfl ?_
  refine r_iload_n X 2 dX8_takeBlanket_3 rfl rfl ?_
  obtain ⟨u4, e5, E⟩ := gb_some E
  obtain ⟨r1, g2, e3, E⟩ := cb_some E
  rcases r1 with v6 | w7
  · rw [Sum.elim_inl] at E
    refine r_callVX X hl0 (ci := 8) dX8_takeBlanket_4 y_X8_act m_X8_339 rfl rfl e5 (t_x8_act (l := l) hst (G := G) e3) rfl rfl (Nat.le_of_ble_eq_true rfl) (by decide) ?_
    cases E
    exact r_ret (r_iret X hr dX8_takeBlanket_7 (by decide) (by decide))
  · rw [Sum.elim_inr] at E
    cases E
    exact r_thrV X hl0 hnt (ci := 8) dX8_takeBlanket_4 y_X8_act m_X8_339 rfl rfl e5 (t_x8_act (l := l) hst (G := G) e3) rfl rfl (Nat.le_of_ble_eq_true rfl) (by decide) (by decide) (by decide)
theorem t_x8_takeBlanket {l : Launch} (hst : l.stackTraces = false) {G : GG} {p : Nat} {b0 : Int32} {b1 : Int32} {g : AH} {o : (Int32 ⊕ String)} {g1 : AH} (E : x8_takeBlanket p b0 b1 g = some (o, g1)) : CtX l G yX8_takeBlanket cX8_takeBlanket 3 (some .int) ⟨9, 3, 18, 243⟩ [.ref p, .int b0, .int b1] g (ovI o) g1 :=
  ctX_of (L0 := [(0, .ref p), (1, .int b0), (2, .int b1)]) y_X8_takeBlanket rfl (Nat.le_of_ble_eq_true rfl) fun M hl0 X hr hnm hnt => t_x8_takeBlanket_b X hl0 hr hnm hnt hst E
set_option maxHeartbeats 4000000 in
set_option maxRecDepth 100000 in
theorem t_x8_returnBlanket_b {l : Launch} {G : GG} {M : MC} (X : CX M G cX8_returnBlanket 2 RX8 ⟨9, 3, 18, 243⟩) (hl0 : M.2.1 = l) (hr : (mM M).sig.returnType = (some .int)) (hnm : (mM M).name = yX8_returnBlanket.name) (hnt : ∀ x ∈ (mC M).exceptionTable.toList, False) (hst : l.stackTraces = false) {p : Nat} {b0 : Int32} {g : AH} {o : (Int32 ⊕ String)} {g1 : AH} (E : x8_returnBlanket p b0 g = some (o, g1)) : WW M G 2 (RX M G (ovI o) g1 3 18) 0 0 g 0 [(0, .ref p), (1, .int b0)] [] := by
  unfold x8_returnBlanket at E
  refine r_aload_n X 0 dX8_returnBlanket_0 rfl rfl ?_
  refine r_iconst X (v := 1) dX8_returnBlanket_1 (by decide) ?_
  refine r_iload_n X 1 dX8_returnBlanket_2 rfl rfl ?_
  refine r_iconst X (v := 0) dX8_returnBlanket_3 (by decide) ?_
  obtain ⟨u4, e5, E⟩ := gb_some E
  obtain ⟨r1, g2, e3, E⟩ := cb_some E
  rcases r1 with v6 | w7
  · rw [Sum.elim_inl] at E
    refine r_callVX X hl0 (ci := 8) dX8_returnBlanket_4 y_X8_act m_X8_339 rfl rfl e5 (t_x8_act (l := l) hst (G := G) e3) rfl rfl (Nat.le_of_ble_eq_true rfl) (by decide) ?_
    cases E
    exact r_ret (r_iret X hr dX8_returnBlanket_7 (by decide) (by decide))
  · rw [Sum.elim_inr] at E
    cases E
    exact r_thrV X hl0 hnt (ci := 8) dX8_returnBlanket_4 y_X8_act m_X8_339 rfl rfl e5 (t_x8_act (l := l) hst (G := G) e3) rfl rfl (Nat.le_of_ble_eq_true rfl) (by decide) (by decide) (by decide)
theorem t_x8_returnBlanket {l : Launch} (hst : l.stackTraces = false) {G : GG} {p : Nat} {b0 : Int32} {g : AH} {o : (Int32 ⊕ String)} {g1 : AH} (E : x8_returnBlanket p b0 g = some (o, g1)) : CtX l G yX8_returnBlanket cX8_returnBlanket 2 (some .int) ⟨9, 3, 18, 243⟩ [.ref p, .int b0] g (ovI o) g1 :=
  ctX_of (L0 := [(0, .ref p), (1, .int b0)]) y_X8_returnBlanket rfl (Nat.le_of_ble_eq_true rfl) fun M hl0 X hr hnm hnt => t_x8_returnBlanket_b X hl0 hr hnm hnt hst E
set_option maxHeartbeats 4000000 in
set_option maxRecDepth 100000 in
theorem t_x8_swapBlankets_b {l : Launch} {G : GG} {M : MC} (X : CX M G cX8_swapBlankets 3 RX8 ⟨9, 3, 18, 243⟩) (hl0 : M.2.1 = l) (hr : (mM M).sig.returnType = (some .int)) (hnm : (mM M).name = yX8_swapBlankets.name) (hnt : ∀ x ∈ (mC M).exceptionTable.toList, False) (hst : l.stackTraces = false) {p : Nat} {b0 : Int32} {b1 : Int32} {g : AH} {o : (Int32 ⊕ String)} {g1 : AH} (E : x8_swapBlankets p b0 b1 g = some (o, g1)) : WW M G 3 (RX M G (ovI o) g1 3 18) 0 0 g 0 [(0, .ref p), (1, .int b0), (2, .int b1)] [] := by
  unfold x8_swapBlankets at E
  refine r_aload_n X 0 dX8_swapBlankets_0 rfl rfl ?_
  refine r_iconst X (v := 2) dX8_swapBlankets_1 (by decide) ?_
  refine r_iload_n X 1 dX8_swapBlankets_2 rfl rfl ?_
  refine r_iload_n X 2 dX8_swapBlankets_3 rfl rfl ?_
  obtain ⟨u4, e5, E⟩ := gb_some E
  obtain ⟨r1, g2, e3, E⟩ := cb_some E
  rcases r1 with v6 | w7
  · rw [Sum.elim_inl] at E
    refine r_callVX X hl0 (ci := 8) dX8_swapBlankets_4 y_X8_act m_X8_339 rfl rfl e5 (t_x8_act (l := l) hst (G := G) e3) rfl rfl (Nat.le_of_ble_eq_true rfl) (by decide) ?_
    cases E
    exact r_ret (r_iret X hr dX8_swapBlankets_7 (by decide) (by decide))
  · rw [Sum.elim_inr] at E
    cases E
    exact r_thrV X hl0 hnt (ci := 8) dX8_swapBlankets_4 y_X8_act m_X8_339 rfl rfl e5 (t_x8_act (l := l) hst (G := G) e3) rfl rfl (Nat.le_of_ble_eq_true rfl) (by decide) (by decide) (by decide)
theorem t_x8_swapBlankets {l : Launch} (hst : l.stackTraces = false) {G : GG} {p : Nat} {b0 : Int32} {b1 : Int32} {g : AH} {o : (Int32 ⊕ String)} {g1 : AH} (E : x8_swapBlankets p b0 b1 g = some (o, g1)) : CtX l G yX8_swapBlankets cX8_swapBlankets 3 (some .int) ⟨9, 3, 18, 243⟩ [.ref p, .int b0, .int b1] g (ovI o) g1 :=
  ctX_of (L0 := [(0, .ref p), (1, .int b0), (2, .int b1)]) y_X8_swapBlankets rfl (Nat.le_of_ble_eq_true rfl) fun M hl0 X hr hnm hnt => t_x8_swapBlankets_b X hl0 hr hnm hnt hst E
set_option maxHeartbeats 4000000 in
set_option maxRecDepth 100000 in
theorem t_x8_lieDown_b {l : Launch} {G : GG} {M : MC} (X : CX M G cX8_lieDown 3 RX8 ⟨9, 3, 18, 243⟩) (hl0 : M.2.1 = l) (hr : (mM M).sig.returnType = (some .int)) (hnm : (mM M).name = yX8_lieDown.name) (hnt : ∀ x ∈ (mC M).exceptionTable.toList, False) (hst : l.stackTraces = false) {p : Nat} {b0 : Int32} {b1 : Int32} {g : AH} {o : (Int32 ⊕ String)} {g1 : AH} (E : x8_lieDown p b0 b1 g = some (o, g1)) : WW M G 3 (RX M G (ovI o) g1 3 18) 0 0 g 0 [(0, .ref p), (1, .int b0), (2, .int b1)] [] := by
  unfold x8_lieDown at E
  refine r_aload_n X 0 dX8_lieDown_0 rfl rfl ?_
  refine r_iconst X (v := 3) dX8_lieDown_1 (by decide) ?_
  refine r_iload_n X 1 dX8_lieDown_2 rfl rfl ?_
  refine r_iload_n X 2 dX8_lieDown_3 rfl rfl ?_
  obtain ⟨u4, e5, E⟩ := gb_some E
  obtain ⟨r1, g2, e3, E⟩ := cb_some E
  rcases r1 with v6 | w7
  · rw [Sum.elim_inl] at E
    refine r_callVX X hl0 (ci := 8) dX8_lieDown_4 y_X8_act m_X8_339 rfl rfl e5 (t_x8_act (l := l) hst (G := G) e3) rfl rfl (Nat.le_of_ble_eq_true rfl) (by decide) ?_
    cases E
    exact r_ret (r_iret X hr dX8_lieDown_7 (by decide) (by decide))
  · rw [Sum.elim_inr] at E
    cases E
    exact r_thrV X hl0 hnt (ci := 8) dX8_lieDown_4 y_X8_act m_X8_339 rfl rfl e5 (t_x8_act (l := l) hst (G := G) e3) rfl rfl (Nat.le_of_ble_eq_true rfl) (by decide) (by decide) (by decide)
theorem t_x8_lieDown {l : Launch} (hst : l.stackTraces = false) {G : GG} {p : Nat} {b0 : Int32} {b1 : Int32} {g : AH} {o : (Int32 ⊕ String)} {g1 : AH} (E : x8_lieDown p b0 b1 g = some (o, g1)) : CtX l G yX8_lieDown cX8_lieDown 3 (some .int) ⟨9, 3, 18, 243⟩ [.ref p, .int b0, .int b1] g (ovI o) g1 :=
  ctX_of (L0 := [(0, .ref p), (1, .int b0), (2, .int b1)]) y_X8_lieDown rfl (Nat.le_of_ble_eq_true rfl) fun M hl0 X hr hnm hnt => t_x8_lieDown_b X hl0 hr hnm hnt hst E
set_option maxHeartbeats 4000000 in
set_option maxRecDepth 100000 in
theorem t_x8_getUp_b {l : Launch} {G : GG} {M : MC} (X : CX M G cX8_getUp 2 RX8 ⟨9, 3, 18, 243⟩) (hl0 : M.2.1 = l) (hr : (mM M).sig.returnType = (some .int)) (hnm : (mM M).name = yX8_getUp.name) (hnt : ∀ x ∈ (mC M).exceptionTable.toList, False) (hst : l.stackTraces = false) {p : Nat} {b0 : Int32} {g : AH} {o : (Int32 ⊕ String)} {g1 : AH} (E : x8_getUp p b0 g = some (o, g1)) : WW M G 2 (RX M G (ovI o) g1 3 18) 0 0 g 0 [(0, .ref p), (1, .int b0)] [] := by
  unfold x8_getUp at E
  refine r_aload_n X 0 dX8_getUp_0 rfl rfl ?_
  refine r_iconst X (v := 4) dX8_getUp_1 (by decide) ?_
  refine r_iload_n X 1 dX8_getUp_2 rfl rfl ?_
  refine r_iconst X (v := 0) dX8_getUp_3 (by decide) ?_
  obtain ⟨u4, e5, E⟩ := gb_some E
  obtain ⟨r1, g2, e3, E⟩ := cb_some E
  rcases r1 with v6 | w7
  · rw [Sum.elim_inl] at E
    refine r_callVX X hl0 (ci := 8) dX8_getUp_4 y_X8_act m_X8_339 rfl rfl e5 (t_x8_act (l := l) hst (G := G) e3) rfl rfl (Nat.le_of_ble_eq_true rfl) (by decide) ?_
    cases E
    exact r_ret (r_iret X hr dX8_getUp_7 (by decide) (by decide))
  · rw [Sum.elim_inr] at E
    cases E
    exact r_thrV X hl0 hnt (ci := 8) dX8_getUp_4 y_X8_act m_X8_339 rfl rfl e5 (t_x8_act (l := l) hst (G := G) e3) rfl rfl (Nat.le_of_ble_eq_true rfl) (by decide) (by decide) (by decide)
theorem t_x8_getUp {l : Launch} (hst : l.stackTraces = false) {G : GG} {p : Nat} {b0 : Int32} {g : AH} {o : (Int32 ⊕ String)} {g1 : AH} (E : x8_getUp p b0 g = some (o, g1)) : CtX l G yX8_getUp cX8_getUp 2 (some .int) ⟨9, 3, 18, 243⟩ [.ref p, .int b0] g (ovI o) g1 :=
  ctX_of (L0 := [(0, .ref p), (1, .int b0)]) y_X8_getUp rfl (Nat.le_of_ble_eq_true rfl) fun M hl0 X hr hnm hnt => t_x8_getUp_b X hl0 hr hnm hnt hst E
set_option maxHeartbeats 4000000 in
set_option maxRecDepth 100000 in
theorem t_x8_setRate_b {l : Launch} {G : GG} {M : MC} (X : CX M G cX8_setRate 2 RX8 ⟨9, 3, 18, 243⟩) (hl0 : M.2.1 = l) (hr : (mM M).sig.returnType = (some .int)) (hnm : (mM M).name = yX8_setRate.name) (hnt : ∀ x ∈ (mC M).exceptionTable.toList, False) (hst : l.stackTraces = false) {p : Nat} {b0 : Int32} {g : AH} {o : (Int32 ⊕ String)} {g1 : AH} (E : x8_setRate p b0 g = some (o, g1)) : WW M G 2 (RX M G (ovI o) g1 3 18) 0 0 g 0 [(0, .ref p), (1, .int b0)] [] := by
  unfold x8_setRate at E
  refine r_aload_n X 0 dX8_setRate_0 rfl rfl ?_
  refine r_iconst X (v := 5) dX8_setRate_1 (by decide) ?_
  refine r_iload_n X 1 dX8_setRate_2 rfl rfl ?_
  refine r_iconst X (v := 0) dX8_setRate_3 (by decide) ?_
  obtain ⟨u4, e5, E⟩ := gb_some E
  obtain ⟨r1, g2, e3, E⟩ := cb_some E
  rcases r1 with v6 | w7
  · rw [Sum.elim_inl] at E
    refine r_callVX X hl0 (ci := 8) dX8_setRate_4 y_X8_act m_X8_339 rfl rfl e5 (t_x8_act (l := l) hst (G := G) e3) rfl rfl (Nat.le_of_ble_eq_true rfl) (by decide) ?_
    cases E
    exact r_ret (r_iret X hr dX8_setRate_7 (by decide) (by decide))
  · rw [Sum.elim_inr] at E
    cases E
    exact r_thrV X hl0 hnt (ci := 8) dX8_setRate_4 y_X8_act m_X8_339 rfl rfl e5 (t_x8_act (l := l) hst (G := G) e3) rfl rfl (Nat.le_of_ble_eq_true rfl) (by decide) (by decide) (by decide)
theorem t_x8_setRate {l : Launch} (hst : l.stackTraces = false) {G : GG} {p : Nat} {b0 : Int32} {g : AH} {o : (Int32 ⊕ String)} {g1 : AH} (E : x8_setRate p b0 g = some (o, g1)) : CtX l G yX8_setRate cX8_setRate 2 (some .int) ⟨9, 3, 18, 243⟩ [.ref p, .int b0] g (ovI o) g1 :=
  ctX_of (L0 := [(0, .ref p), (1, .int b0)]) y_X8_setRate rfl (Nat.le_of_ble_eq_true rfl) fun M hl0 X hr hnm hnt => t_x8_setRate_b X hl0 hr hnm hnt hst E
